/** Promises 1 to 3: a new object, come, begin. */
public final class FightersTest {
    public static void main(String[] args) {
        newObject();
        come();
        comeWrong();
        comeWhileItGoesOn();
        begin();
        beginAnew();
        beginWithFallenStunnedAndBleeding();
        Check.finish();
    }

    private static void newObject() {
        TurnTracker x = new TurnTracker();
        Check.due("NONE", TurnTracker.NONE, -1);
        for (int what = 0; what <= 12; what++) {
            Check.due("new: count(" + what + ")", x.count(what), what == 2 ? -1 : 0);
        }
        Check.due("new: inRow(0)", x.inRow(0), -1);
        Check.due("new: firstError()", x.firstError(), 0);
        Check.due("new: clearBuffer()", x.clearBuffer(), 0);
        Check.dueShare("new: standing()", x.standing(), 0.5);
        Check.dueThrow(x, "new: undo()", Check.STATE, x::undo);
        Check.dueThrow(x, "new: run()", Check.ARGUMENT, x::run);
    }

    private static void come() {
        TurnTracker x = new TurnTracker();
        Check.due("come", x.come(0, 20, 30, 5), 0);
        Check.due("come", x.come(1, 40, 99, 20), 1);
        Check.due("come", x.come(1, 0, 1, 1), 2);
        Check.due("come", x.come(0, 20, 8, 6), 3);
        Check.dueRow("came", x, 1, 0, 3, 2);
        int[] due = {1, 40, 99, 99, 20, 9, 0, 0, 0, 0, 0, 0, 0, 0};
        for (int what = 0; what < due.length; what++) {
            Check.due("came: fighter(1, " + what + ")", x.fighter(1, what), due[what]);
        }
        Check.due("came: place of the side 0", x.fighter(0, 5), 0);
        Check.due("came: saved", x.count(12), 4);
        Check.due("came: round", x.count(1), 0);
        Check.due("came: turn", x.count(2), -1);
    }

    private static void comeWrong() {
        TurnTracker x = new TurnTracker();
        int[][] wrong = {{-1, 0, 1, 1}, {2, 0, 1, 1}, {0, -1, 1, 1}, {0, 41, 1, 1}, {0, 0, 0, 1}, {0, 0, 100, 1},
            {0, 0, 1, 0}, {0, 0, 1, 21}, {Integer.MIN_VALUE, 0, 1, 1}, {0, 0, Integer.MAX_VALUE, 1}};
        for (int round = 0; round < 2; round++) {
            for (int[] w : wrong) {
                Check.dueThrow(x, "come wrong", Check.ARGUMENT, () -> x.come(w[0], w[1], w[2], w[3]));
            }
            while (x.count(0) < 10) {
                x.come(x.count(0) % 2, 7, 5, 5);
            }
        }
        Check.dueThrow(x, "come, the eleventh", Check.STATE, () -> x.come(0, 0, 1, 1));
    }

    private static void comeWhileItGoesOn() {
        TurnTracker x = new TurnTracker();
        x.come(0, 20, 9, 1);
        x.come(1, 10, 9, 1);
        x.begin();
        Check.due("comes ahead of the turn", x.come(1, 30, 9, 1), 2);
        Check.due("comes behind the turn", x.come(0, 20, 9, 1), 3);
        Check.dueRow("came in the round", x, 2, 0, 3, 1);
        Check.due("the turn stays", x.count(2), 0);
        Check.due("end", x.end(), 3);
        Check.due("end", x.end(), 1);
        Check.due("end", x.end(), 2);
        Check.due("round", x.count(1), 2);
    }

    private static void begin() {
        TurnTracker x = new TurnTracker();
        Check.due("begin of nobody", x.begin(), -1);
        Check.due("round of nobody", x.count(1), 1);
        Check.due("turns of nobody", x.count(9), 0);
        Check.due("saved", x.count(12), 1);
        x.come(1, 5, 5, 5);
        Check.due("nobody has the turn still", x.count(2), -1);
        x.come(0, 6, 5, 5);
        Check.due("begin", x.begin(), 1);
        Check.due("round", x.count(1), 1);
        Check.due("turns", x.count(9), 1);
    }

    private static void beginAnew() {
        TurnTracker x = new TurnTracker();
        x.come(0, 10, 9, 1);
        x.come(1, 8, 9, 1);
        x.come(0, 6, 9, 1);
        x.begin();
        x.delay();
        Check.due("1 lets 0 come in", x.comeIn(0), 8);
        x.ready(0, 0, -1, 1);
        x.step(2);
        Check.due("2 curses 1", x.curse(1, 2, 4), 4);
        Check.due("round 2", x.count(1), 2);
        Check.dueRow("before", x, 1, 0, 2);
        x.ready(0, 0, -1, 1);
        x.delay();
        Check.due("begin anew", x.begin(), 0);
        // 0 and 1 have the initiative 8 now: the lower number stands ahead.
        Check.dueRow("begun anew", x, 0, 1, 2);
        Check.due("round", x.count(1), 1);
        Check.due("delaying", x.count(5), 0);
        Check.due("readied", x.count(6), 0);
        Check.due("readied(1, 0)", x.readied(1, 0), -1);
        Check.due("place stays", x.fighter(0, 5), 2);
        Check.due("condition stays, a turn with it passed", x.fighter(1, 10), 3);
        Check.due("acts stay", x.count(7), 2);
        Check.due("turns go on", x.count(9), 8);
    }

    private static void beginWithFallenStunnedAndBleeding() {
        TurnTracker x = new TurnTracker();
        x.come(0, 30, 2, 1);
        x.come(0, 20, 9, 1);
        x.come(1, 10, 9, 1);
        x.begin();
        x.end();
        x.end();
        x.curse(0, 3, 5);
        Check.due("0 bleeds and falls", x.fighter(0, 7), 3);
        Check.due("1 has the turn", x.count(2), 1);
        x.end();
        x.curse(1, 0, 2);
        Check.due("1 is stunned, so 2 again", x.count(2), 2);
        Check.due("stun is less", x.fighter(1, 8), 1);
        Check.due("round", x.count(1), 3);
        Check.due("begin: 0 has fallen, 1 is stunned", x.begin(), 2);
        Check.due("stun is over", x.fighter(1, 8), 0);
        Check.due("bleeding of the fallen one stays", x.fighter(0, 11), 4);
        Check.due("round", x.count(1), 1);
        Check.due("end", x.end(), 1);
        Check.due("round", x.count(1), 2);
    }
}
