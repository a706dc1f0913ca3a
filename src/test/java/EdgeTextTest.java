/** The boundary cases of 'Input text' and of the promises 12 to 15: append, clearBuffer, firstError, run. */
public final class EdgeTextTest {
    public static void main(String[] args) {
        codesAtBothEnds();
        sixtyCharactersAreAll();
        theWrongCodeIsNamedAheadOfTheFullBuffer();
        clearBufferOfEachLength();
        eachCodeAtEachPlaceOfAnOrder();
        errorsAtTheFirstAndTheLastCharacter();
        justTheFirstErrorCounts();
        aFullBufferCanBeTheBeginningOfALongerText();
        firstErrorChangesNothing();
        runOfNothing();
        runOfEachBeginning();
        runRefusedLeavesAll();
        runOfSixtyCharacters();
        runOfOne();
        runOfNone();
        runStopsAtEachRefusedOrder();
        runWithoutTheTurn();
        runUpToTheLastFall();
        runIsUndoneAsOneCall();
        digitsOfOrdersAtBothEnds();
        Check.finish();
    }

    private static String many(int length) {
        return "e;".repeat(31).substring(0, length);
    }

    private static void codesAtBothEnds() {
        TurnTracker x = new TurnTracker();
        for (int code : new int[] {32, 127, 0, -1, 128, 256 + 'e', Integer.MIN_VALUE, Integer.MAX_VALUE}) {
            Check.dueThrow(x, "append " + code, Check.ARGUMENT, () -> x.append(code));
        }
        Check.due("length", x.clearBuffer(), 0);
        for (int code = 33; code <= 126; code++) {
            Check.due("append " + code, x.append(code), 1);
            Check.due("clearBuffer", x.clearBuffer(), 1);
        }
    }

    private static void sixtyCharactersAreAll() {
        TurnTracker x = new TurnTracker();
        for (int length = 1; length <= 60; length++) {
            Check.due("append", x.append(length % 2 == 1 ? 'e' : ';'), length);
        }
        Check.dueThrow(x, "the 61st", Check.STATE, () -> x.append('e'));
        Check.dueThrow(x, "the 61st", Check.STATE, () -> x.append(33));
        Check.dueThrow(x, "the 61st", Check.STATE, () -> x.append(126));
        Check.due("firstError", x.firstError(), 60);
        Check.due("clearBuffer", x.clearBuffer(), 60);
        Check.due("append again", x.append('x'), 1);
        Check.due("firstError", x.firstError(), 0);
    }

    private static void theWrongCodeIsNamedAheadOfTheFullBuffer() {
        TurnTracker x = new TurnTracker();
        Check.type(x, many(60));
        Check.dueThrow(x, "32 and full", Check.ARGUMENT, () -> x.append(32));
        Check.dueThrow(x, "127 and full", Check.ARGUMENT, () -> x.append(127));
    }

    private static void clearBufferOfEachLength() {
        TurnTracker x = new TurnTracker();
        for (int length = 0; length <= 60; length++) {
            Check.type(x, many(length));
            Check.due("clearBuffer", x.clearBuffer(), length);
            Check.due("clearBuffer of the empty one", x.clearBuffer(), 0);
            Check.due("firstError of the empty one", x.firstError(), 0);
        }
        Check.due("nothing saved", x.count(12), 0);
    }

    /** What was read, and the characters that can stand behind it. */
    private static final String[][] NEXT = {{"", "smhcwei"}, {"w;", "smhcwei"}, {"c935;", "smhcwei"}, {"s", "0123456789"},
        {"m", "0123456789"}, {"h", "0123456789"}, {"i", "0123456789"}, {"c", "0123456789"}, {"c0", "0123"}, {"c9", "0123"},
        {"c00", "12345"}, {"c93", "12345"}, {"w", ";"}, {"e", ";"}, {"s0", ";"}, {"m9", ";"}, {"h0", ";"}, {"i9", ";"},
        {"c001", ";"}, {"c935", ";"}, {"e;c", "0123456789"}, {"e;c5", "0123"}, {"e;c52", "12345"}, {"e;w", ";"}};

    private static void eachCodeAtEachPlaceOfAnOrder() {
        TurnTracker x = new TurnTracker();
        for (String[] next : NEXT) {
            Check.type(x, next[0]);
            Check.due("firstError of " + next[0], x.firstError(), next[0].length());
            x.clearBuffer();
            for (char code = 33; code <= 126; code++) {
                Check.type(x, next[0] + code);
                boolean right = next[1].indexOf(code) >= 0;
                Check.due("firstError of " + next[0] + code, x.firstError(), next[0].length() + (right ? 1 : 0));
                x.clearBuffer();
            }
        }
    }

    private static void errorsAtTheFirstAndTheLastCharacter() {
        for (int place = 0; place < 60; place++) {
            TurnTracker x = new TurnTracker();
            String text = many(60);
            Check.type(x, text.substring(0, place) + '!' + text.substring(place + 1));
            Check.due("the error at " + place, x.firstError(), place);
            Check.dueThrow(x, "run", Check.ARGUMENT, x::run);
            Check.due("the buffer stays", x.clearBuffer(), 60);
        }
    }

    private static void justTheFirstErrorCounts() {
        TurnTracker x = new TurnTracker();
        Check.type(x, "e;s;w");
        Check.due("right behind it again", x.firstError(), 3);
        x.clearBuffer();
        Check.type(x, "!e;!");
        Check.due("two errors", x.firstError(), 0);
        x.clearBuffer();
        Check.type(x, "e;e!");
        Check.due("the last one", x.firstError(), 3);
    }

    private static void aFullBufferCanBeTheBeginningOfALongerText() {
        for (String end : new String[] {"s", "m", "h", "i", "c", "e;s0;", "e;c0", "c00", "e;m9;"}) {
            TurnTracker x = new TurnTracker();
            int first = 60 - end.length();
            String text = many(first).endsWith(";") ? many(first) + end : "m0;" + many(first - 3) + end;
            Check.type(x, text);
            Check.due("length of " + text, text.length(), 60);
            Check.due("firstError of " + text, x.firstError(), 60);
            Check.dueThrow(x, "run of " + text, Check.ARGUMENT, x::run);
        }
    }

    private static void firstErrorChangesNothing() {
        TurnTracker x = Scene.line(2);
        Check.type(x, "e;!");
        long before = x.digest();
        Check.due("firstError", x.firstError(), 2);
        Check.due("firstError", x.firstError(), 2);
        Check.due("digest", x.digest(), before);
    }

    private static void runOfNothing() {
        TurnTracker x = Scene.line(2);
        int saved = x.count(12);
        Check.dueThrow(x, "run of the empty buffer", Check.ARGUMENT, x::run);
        Check.due("saved", x.count(12), saved);
    }

    private static void runOfEachBeginning() {
        String text = "w;i0;m5;s1;c031;h0;e";
        String complete = " 1 4 7 10 15 18 20 ";
        for (int length = 0; length <= text.length(); length++) {
            TurnTracker x = Scene.line(3);
            Check.type(x, text.substring(0, length));
            Check.due("no error", x.firstError(), length);
            if (complete.contains(" " + length + " ")) {
                x.run();
                Check.due("the buffer is clear", x.clearBuffer(), 0);
            } else {
                Check.dueThrow(x, "run of " + text.substring(0, length), Check.ARGUMENT, x::run);
                Check.due("the buffer stays", x.clearBuffer(), length);
            }
        }
    }

    private static void runRefusedLeavesAll() {
        for (String text : new String[] {"e;e;", "e;e!", "!e;e", "e;;e", "e;e;s", ";e", "e;c00", "e;c006", "e;c041", "ee"}) {
            TurnTracker x = Scene.line(2);
            Check.type(x, text);
            String before = Scene.looks(x);
            Check.dueThrow(x, "run of " + text, Check.ARGUMENT, x::run);
            Check.dueText("no order is done", Scene.looks(x), before);
            Check.due("the buffer stays", x.clearBuffer(), text.length());
        }
    }

    private static void runOfSixtyCharacters() {
        TurnTracker x = Scene.line(2);
        int turns = x.count(9);
        Check.type(x, "m5;" + many(57));
        Check.due("run", x.run(), 30);
        Check.due("turns", x.count(9), turns + 30);
        Check.type(x, many(58) + "m5");
        Check.due("run", x.run(), 30);
        Check.due("turns", x.count(9), turns + 60);
    }

    private static void runOfOne() {
        TurnTracker x = Scene.line(2);
        Check.type(x, "s1");
        Check.due("run", x.run(), 1);
        Check.due("struck", x.fighter(1, 2), 45);
        Check.due("turn", x.count(2), 1);
    }

    private static void runOfNone() {
        TurnTracker x = new TurnTracker();
        x.come(0, 20, 9, 1);
        x.begin();
        Check.type(x, "s0;e");
        String before = Scene.looks(x);
        Check.due("run", x.run(), 0);
        Check.dueText("nothing is done", Scene.looks(x), before);
        Check.due("saved, too", x.count(12), 3);
        Check.due("the buffer is clear", x.clearBuffer(), 0);
        Check.due("undo of nothing", x.undo(), 2);
        Check.dueText("nothing is undone", Scene.looks(x), before);
    }

    private static void runStopsAtEachRefusedOrder() {
        // At the place 5 stand 0 and 2 of the side 0 and 1 of the side 1, at 8 the foe 3.
        int[][] fighters = {{0, 40, 50, 5, 5}, {1, 30, 50, 5, 5}, {0, 20, 50, 5, 5}, {1, 10, 50, 5, 8}};
        String[] refused = {"s0", "s3", "s4", "s9", "m1", "m9", "h0", "h1", "h4", "h9", "c001", "c201", "c401", "c935", "i0", "i1",
            "i4", "i9"};
        for (String order : refused) {
            for (int ahead = 0; ahead <= 2; ahead++) {
                TurnTracker x = Scene.of(fighters);
                int turns = x.count(9);
                Check.type(x, "m5;e;e;e;".substring(0, ahead == 0 ? 0 : 9) + (ahead == 2 ? "m5;e;e;e;" : "") + order + ";e;e");
                Check.due("run up to " + order, x.run(), 4 * ahead);
                Check.due("turns", x.count(9), turns + 4 * ahead);
                Check.due("turn", x.count(2), 0);
                Check.due("the buffer is clear", x.clearBuffer(), 0);
            }
        }
        String[] done = {"s1", "s2", "m2", "m8", "h2", "c101", "c301", "c335", "w", "e"};
        for (String order : done) {
            TurnTracker x = Scene.of(fighters);
            Check.type(x, order);
            Check.due("run of " + order, x.run(), 1);
        }
    }

    private static void runWithoutTheTurn() {
        for (String order : new String[] {"s1", "m0", "h1", "c101", "w", "e", "i0", "s9"}) {
            TurnTracker x = new TurnTracker();
            x.come(0, 20, 9, 1);
            x.come(1, 20, 9, 1);
            Check.type(x, order);
            Check.due("run of " + order, x.run(), 0);
            Check.due("saved", x.count(12), 3);
            TurnTracker fallen = EdgeFightersTest.dying();
            fallen.end();
            String before = Scene.looks(fallen);
            Check.type(fallen, order);
            Check.due("all have fallen: run of " + order, fallen.run(), 0);
            Check.dueText("nothing is done", Scene.looks(fallen), before);
        }
    }

    private static void runUpToTheLastFall() {
        for (String text : new String[] {"e", "e;e", "w;w", "m3;i0", "c101;s0", "e;m0"}) {
            TurnTracker x = EdgeFightersTest.dying();
            Check.type(x, text);
            Check.due("run of " + text, x.run(), 1);
            Check.due("turn", x.count(2), -1);
        }
    }

    private static void runIsUndoneAsOneCall() {
        TurnTracker x = Scene.line(3);
        String before = Scene.looks(x);
        Check.type(x, "w;i0;s2;s1;c102;e");
        Check.due("run", x.run(), 6);
        Check.due("saved", x.count(12), 6);
        Check.due("undo", x.undo(), 5);
        Check.dueText("all orders are undone", Scene.looks(x), before);
        Check.due("the buffer is clear still", x.clearBuffer(), 0);
        TurnTracker y = new TurnTracker();
        y.come(0, 20, 9, 1);
        y.begin();
        Check.type(y, "e;e;e;e;e;e;e;e");
        Check.due("run", y.run(), 8);
        Check.due("saved once", y.count(12), 3);
        y.undo();
        Check.due("round", y.count(1), 1);
        y.undo();
        Check.due("round", y.count(1), 0);
        y.undo();
        Check.due("fighters", y.count(0), 0);
    }

    private static void digitsOfOrdersAtBothEnds() {
        TurnTracker x = Scene.line(10);
        Check.type(x, "s9;s0;h8;c035;m8;h3;c121;c202;c913");
        Check.due("run", x.run(), 9);
        Check.due("9 was struck", x.fighter(9, 2), 45);
        Check.due("0 was struck", x.fighter(0, 2), 45);
        Check.due("4 stands at 8", x.fighter(4, 5), 8);
        Check.due("0 bleeds for 5", x.fighter(0, 11), 5);
        Check.due("1 is blessed for 1", x.fighter(1, 10), 1);
        Check.due("2 is stunned for 2", x.fighter(2, 8), 2);
        Check.due("9 is slowed for 3", x.fighter(9, 9), 3);
        TurnTracker y = Scene.line(10);
        Check.type(y, "w;i0;e");
        Check.due("0 comes in", y.run(), 3);
        Check.due("turn", y.count(2), 0);
        TurnTracker z = Scene.of(new int[][] {{0, 40, 50, 5, 0}, {1, 30, 50, 5, 9}});
        Check.type(z, "m0;m9;m3;m6");
        Check.due("run of steps", z.run(), 4);
        Check.due("place", z.fighter(0, 5), 3);
        TurnTracker nine = new TurnTracker();
        for (int i = 0; i < 10; i++) {
            nine.come(i % 2, 4 * i, 9, 1);
        }
        nine.begin();
        Check.type(nine, "w;i9;e");
        Check.due("9 comes in", nine.run(), 3);
        Check.due("turn", nine.count(2), 9);
    }
}
