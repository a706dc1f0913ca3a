/** Promises 12 to 15: append, clearBuffer, firstError, run. */
public final class TextTest {
    public static void main(String[] args) {
        append();
        firstError();
        runIncomplete();
        runDoesAllOrders();
        runStopsAtTheFirstException();
        runWithFailingActs();
        runFull();
        Check.finish();
    }

    private static void append() {
        TurnTracker x = new TurnTracker();
        Check.dueThrow(x, "append 32", Check.ARGUMENT, () -> x.append(32));
        Check.dueThrow(x, "append 127", Check.ARGUMENT, () -> x.append(127));
        Check.dueThrow(x, "append -1", Check.ARGUMENT, () -> x.append(-1));
        Check.due("append 33", x.append(33), 1);
        Check.due("append 126", x.append(126), 2);
        for (int length = 3; length <= 60; length++) {
            Check.due("append", x.append('e'), length);
        }
        Check.dueThrow(x, "append the 61st", Check.STATE, () -> x.append('e'));
        Check.dueThrow(x, "append a wrong 61st", Check.ARGUMENT, () -> x.append(32));
        Check.due("nothing is saved", x.count(12), 0);
        Check.due("clearBuffer", x.clearBuffer(), 60);
        Check.due("clearBuffer", x.clearBuffer(), 0);
        Check.due("append", x.append('e'), 1);
    }

    private static void dueError(String text, int place) {
        TurnTracker x = new TurnTracker();
        Check.type(x, text);
        Check.due("firstError of " + text, x.firstError(), place);
        Check.due("the buffer stays: " + text, x.clearBuffer(), text.length());
    }

    private static void firstError() {
        String[] right = {"", "s", "s0", "s9", "m0", "m9", "h9", "i0", "i9", "c", "c9", "c93", "c935", "c001", "w", "e",
            "w;", "w;e", "s0;m1;h2;c031;w;e;i4", "s0;m1;h2;c031;w;e;i4;", "e;c0"};
        for (String text : right) {
            dueError(text, text.length());
        }
        String[] firstWrong = {";", "x", "0", "S0", "W", "!", "~"};
        for (String text : firstWrong) {
            dueError(text, 0);
            dueError("e;" + text, 2);
            dueError(text + "e", 0);
        }
        String[] lastWrong = {"ss", "s;", "s/", "s:", "mm", "m-", "h;", "ha", "i;", "ie", "w0", "ww", "w,", "w:", "w<", "e0", "ee", "c;", "ca",
            "c0;", "c04", "c0/", "c00;", "c000", "c006", "c00/", "s00", "m0m", "h01", "i0e", "c0011", "c001e", "w;;"};
        for (String text : lastWrong) {
            dueError(text, text.length() - 1);
            dueError(text + "e", text.length() - 1);
            dueError(text + ";;", text.length() - 1);
        }
    }

    private static void runIncomplete() {
        for (String text : new String[] {"", "s", "m", "h", "i", "c", "c0", "c00", "w;", "e;s", "x", "w;;w", "s0;"}) {
            TurnTracker x = Check.duel(9, 1, 9, 1);
            Check.type(x, text);
            Check.dueThrow(x, "run of " + text, Check.ARGUMENT, x::run);
            Check.due("the buffer stays: " + text, x.clearBuffer(), text.length());
        }
    }

    private static void runDoesAllOrders() {
        TurnTracker x = Check.duel(40, 5, 40, 7);
        x.come(0, 15, 30, 1);
        // Row 0, 2, 1: 0 delays, 2 lets it come in and steps, 0 strikes, 1 curses; then again.
        Check.type(x, "w;i0;m3;s1;c031;h0;e;s0");
        int saved = x.count(12);
        Check.due("run", x.run(), 8);
        Check.due("saved once", x.count(12), Math.min(saved + 1, 6));
        Check.due("the buffer is clear", x.clearBuffer(), 0);
        Check.dueRow("0 came in", x, 2, 0, 1);
        Check.due("stepped", x.fighter(2, 5), 3);
        Check.due("struck", x.fighter(1, 2), 35);
        Check.due("struck back, but not bled, as the help ended that", x.fighter(0, 2), 33);
        Check.due("the round after next", x.count(1), 5);
        Check.due("turn", x.count(2), 2);
    }

    private static void runStopsAtTheFirstException() {
        String[] stops = {"s0", "s1", "s7", "m9", "h0", "h1", "h8", "c001", "c231", "c900", "i0", "i1", "i5"};
        for (String stop : stops) {
            TurnTracker x = new TurnTracker();
            x.come(0, 20, 9, 1);
            x.come(1, 10, 9, 1);
            x.begin();
            if (stop.equals("c900")) {
                continue;
            }
            Check.type(x, "e;e;" + stop + ";e");
            Check.due("run up to " + stop, x.run(), 2);
            Check.due("turns at " + stop, x.count(9), 3);
            Check.due("turn at " + stop, x.count(2), 0);
            Check.due("saved at " + stop, x.count(12), 4);
            Check.due("buffer at " + stop, x.clearBuffer(), 0);
        }
        for (String text : new String[] {"e", "w", "s0", "m0", "h0", "c001", "i0"}) {
            TurnTracker x = new TurnTracker();
            x.come(0, 20, 9, 1);
            Check.type(x, text);
            Check.due("run without a turn: " + text, x.run(), 0);
            Check.due("saved", x.count(12), 2);
            Check.due("buffer", x.clearBuffer(), 0);
            Check.due("undo", x.undo(), 1);
        }
    }

    private static void runWithFailingActs() {
        TurnTracker x = Check.duel(20, 9, 5, 5);
        x.ready(0, 1, -1, 0);
        Check.type(x, "s0;e");
        Check.due("a failing act is done", x.run(), 2);
        Check.due("failed", x.count(8), 1);
        Check.due("1 fell", x.fighter(1, 7), 3);
    }

    private static void runFull() {
        TurnTracker x = new TurnTracker();
        x.come(0, 20, 9, 1);
        x.come(1, 10, 9, 1);
        x.begin();
        for (int i = 0; i < 29; i++) {
            Check.type(x, "e;");
        }
        Check.type(x, "m0");
        Check.due("the last of 60 characters", x.firstError(), 60);
        Check.due("run: 1 can't step so far", x.run(), 29);
        Check.due("round", x.count(1), 15);
        for (int i = 0; i < 29; i++) {
            Check.type(x, "e;");
        }
        Check.type(x, "m3");
        Check.due("run: 0 can", x.run(), 30);
        Check.due("place", x.fighter(0, 5), 3);
    }
}
