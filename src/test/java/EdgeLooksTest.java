/** The boundary cases of the promises 17 to 20: fighter, readied, inRow, count. */
public final class EdgeLooksTest {
    public static void main(String[] args) {
        fighterAtBothEnds();
        readiedAtBothEnds();
        inRowAtBothEnds();
        countAtBothEnds();
        looksChangeNothing();
        eachStatus();
        aDelayAheadOfAReadiedAct();
        actsThatDidNotFail();
        lifeThatOthersLost();
        countsWithoutFighters();
        countsWithTen();
        theFallenAreNotCounted();
        turnsThatBegan();
        savedStates();
        Check.finish();
    }

    private static final int[] FAR_OUT = {Integer.MIN_VALUE, Integer.MAX_VALUE};

    private static void fighterAtBothEnds() {
        for (int n = 0; n <= 10; n++) {
            TurnTracker x = new TurnTracker();
            for (int i = 0; i < n; i++) {
                x.come(i % 2, 20 + i, 30 + i, 5 + i);
                Check.due("side", x.fighter(i, 0), i % 2);
            }
            int number = n;
            Check.dueThrow(x, "fighter " + n, Check.BOUNDS, () -> x.fighter(number, 0));
            Check.dueThrow(x, "fighter -1", Check.BOUNDS, () -> x.fighter(-1, 0));
            Check.dueThrow(x, "fighter " + n + ", what 14", Check.BOUNDS, () -> x.fighter(number, 14));
            Check.dueThrow(x, "fighter -1, what -1", Check.BOUNDS, () -> x.fighter(-1, -1));
            for (int far : FAR_OUT) {
                Check.dueThrow(x, "fighter " + far, Check.BOUNDS, () -> x.fighter(far, 0));
            }
            for (int i = 0; i < n; i++) {
                int f = i;
                Check.dueThrow(x, "what -1", Check.ARGUMENT, () -> x.fighter(f, -1));
                Check.dueThrow(x, "what 14", Check.ARGUMENT, () -> x.fighter(f, 14));
                Check.due("initiative", x.fighter(f, 1), 20 + i);
                Check.due("life", x.fighter(f, 2), 30 + i);
                Check.due("most life", x.fighter(f, 3), 30 + i);
                Check.due("force", x.fighter(f, 4), 5 + i);
                Check.due("place in the row", x.fighter(f, 6), n - 1 - i);
                Check.due("life taken", x.fighter(f, 13), 0);
                for (int far : FAR_OUT) {
                    Check.dueThrow(x, "what " + far, Check.ARGUMENT, () -> x.fighter(f, far));
                }
            }
        }
    }

    private static void readiedAtBothEnds() {
        for (int n = 0; n <= 10; n += 5) {
            TurnTracker x = new TurnTracker();
            for (int i = 0; i < n; i++) {
                x.come(i % 2, 20, 30, 5);
            }
            int number = n;
            Check.dueThrow(x, "readied " + n, Check.BOUNDS, () -> x.readied(number, 0));
            Check.dueThrow(x, "readied -1", Check.BOUNDS, () -> x.readied(-1, 3));
            Check.dueThrow(x, "readied -1, what 4", Check.BOUNDS, () -> x.readied(-1, 4));
            for (int i = 0; i < n; i++) {
                int f = i;
                for (int what = 0; what <= 3; what++) {
                    Check.due("none readied", x.readied(i, what), -1);
                }
                Check.dueThrow(x, "what -1", Check.ARGUMENT, () -> x.readied(f, -1));
                Check.dueThrow(x, "what 4", Check.ARGUMENT, () -> x.readied(f, 4));
            }
        }
    }

    private static void inRowAtBothEnds() {
        for (int n = 0; n <= 10; n++) {
            TurnTracker x = new TurnTracker();
            for (int i = 0; i < n; i++) {
                x.come(i % 2, 20 + i, 30, 5);
            }
            for (int place = 0; place < n; place++) {
                Check.due("inRow(" + place + ")", x.inRow(place), n - 1 - place);
            }
            for (int place : new int[] {n, n + 1, 10, 11, Integer.MAX_VALUE}) {
                Check.due("inRow(" + place + ")", x.inRow(place), -1);
            }
            Check.dueThrow(x, "inRow(-1)", Check.ARGUMENT, () -> x.inRow(-1));
            Check.dueThrow(x, "inRow(MIN)", Check.ARGUMENT, () -> x.inRow(Integer.MIN_VALUE));
        }
    }

    private static void countAtBothEnds() {
        TurnTracker x = Scene.line(3);
        Check.due("count(0)", x.count(0), 3);
        Check.due("count(12)", x.count(12), 6);
        for (int what : new int[] {-1, 13, Integer.MIN_VALUE, Integer.MAX_VALUE}) {
            Check.dueThrow(x, "count(" + what + ")", Check.ARGUMENT, () -> x.count(what));
        }
    }

    private static void looksChangeNothing() {
        TurnTracker x = Scene.line(4);
        x.delay();
        x.ready(0, 0, -1, 1);
        Check.type(x, "e;!");
        long before = x.digest();
        Scene.looks(x);
        Check.due("digest behind looks", x.digest(), before);
        for (int place = 0; place <= 10; place++) {
            x.inRow(place);
        }
        Check.due("digest behind inRow", x.digest(), before);
        Check.due("the turn stays", x.count(2), 2);
    }

    private static void eachStatus() {
        TurnTracker x = Scene.of(new int[][] {{0, 40, 50, 5, 5}, {1, 30, 50, 9, 5}, {0, 20, 9, 5, 5}, {1, 10, 50, 5, 5}});
        int[] nothing = {0, 0, 0, 0};
        for (int i = 0; i < 4; i++) {
            Check.due("status", x.fighter(i, 7), nothing[i]);
        }
        x.delay();
        x.strike(2);
        x.ready(0, 0, -1, 0);
        Check.due("delaying ended with the round", x.fighter(0, 7), 0);
        Check.due("nothing", x.fighter(1, 7), 0);
        Check.due("fallen", x.fighter(2, 7), 3);
        Check.due("readied", x.fighter(3, 7), 2);
        x.delay();
        Check.due("delaying", x.fighter(0, 7), 1);
    }

    private static void aDelayAheadOfAReadiedAct() {
        // Who falls while delaying, or with a readied act, has fallen.
        TurnTracker x = Scene.of(new int[][] {{0, 40, 9, 5, 5}, {0, 30, 9, 5, 5}, {1, 20, 50, 9, 5}, {1, 10, 50, 9, 5}});
        x.delay();
        x.ready(0, 2, -1, 3);
        Check.due("delaying", x.count(5), 1);
        Check.due("readied", x.count(6), 1);
        x.strike(0);
        x.strike(1);
        Check.due("status", x.fighter(0, 7), 3);
        Check.due("status", x.fighter(1, 7), 3);
        Check.due("delaying", x.count(5), 0);
        Check.due("readied", x.count(6), 0);
        Check.due("told still", x.readied(1, 3), 3);
    }

    private static void actsThatDidNotFail() {
        TurnTracker x = Scene.of(new int[][] {{0, 40, 50, 5, 5}, {1, 30, 5, 5, 5}, {1, 20, 50, 5, 5}});
        Check.due("acts", x.count(7), 9);
        x.ready(0, 1, -1, 0);
        Check.due("readying is no act", x.count(7), 9);
        Check.due("strike fails", x.strike(2), -1);
        Check.due("the readied one did not fail", x.count(7), 10);
        Check.due("failed", x.count(8), 1);
        Check.due("acts of 0", x.fighter(0, 12), 4);
        Check.due("acts of 1", x.fighter(1, 12), 3);
        x.end();
        x.delay();
        x.end();
        x.end();
        Check.due("neither end nor delay is an act", x.count(7), 10);
        Check.due("nor fails", x.count(8), 1);
        Scene.turnTo(x, 0);
        x.delay();
        x.comeIn(0);
        Check.due("nor coming in", x.count(7), 10);
        Check.due("acts of 0", x.fighter(0, 12), 4);
    }

    private static void lifeThatOthersLost() {
        TurnTracker x = Scene.of(new int[][] {{0, 40, 50, 20, 5}, {1, 30, 99, 5, 5}, {0, 20, 7, 5, 5}});
        Check.due("at first", x.fighter(0, 13), 0);
        x.strike(1);
        Check.due("by a strike", x.fighter(0, 13), 20);
        x.curse(2, 3, 1);
        x.strike(1);
        Check.due("not by bleeding", x.fighter(1, 13), 0);
        x.strike(2);
        Check.due("of the own side, too, all that was left", x.fighter(0, 13), 25);
        x.end();
        x.ready(0, 1, 1, 1);
        x.step(5);
        Check.due("by a readied strike", x.fighter(0, 13), 45);
        Check.due("life", x.fighter(1, 2), 54);
    }

    private static void countsWithoutFighters() {
        TurnTracker x = new TurnTracker();
        x.begin();
        int[] due = {0, 1, -1, 0, 0, 0, 0, 0, 0, 0, 0, 0, 1};
        for (int what = 0; what <= 12; what++) {
            Check.due("count(" + what + ")", x.count(what), due[what]);
        }
    }

    private static void countsWithTen() {
        for (int side = 0; side <= 1; side++) {
            TurnTracker x = new TurnTracker();
            for (int i = 0; i < 10; i++) {
                x.come(side, 20, 99, 20);
            }
            Check.due("fighters", x.count(0), 10);
            Check.due("standing", x.count(3 + side), 10);
            Check.due("standing of the other side", x.count(4 - side), 0);
            Check.due("life", x.count(10 + side), 990);
            Check.due("life of the other side", x.count(11 - side), 0);
            x.begin();
            for (int i = 0; i < 9; i++) {
                x.delay();
                Check.due("delaying", x.count(5), i + 1);
            }
            x.delay();
            for (int i = 0; i < 9; i++) {
                x.ready(0, 9, -1, 0);
                Check.due("readied", x.count(6), i + 1);
            }
            x.ready(0, 0, -1, 0);
            Check.due("readied: the first one has the turn again", x.count(6), 9);
        }
    }

    private static void theFallenAreNotCounted() {
        TurnTracker x = Scene.of(new int[][] {{0, 40, 50, 9, 5}, {1, 30, 9, 5, 5}, {1, 20, 10, 5, 5}, {0, 10, 50, 5, 5}});
        x.strike(1);
        Check.due("standing of the side 1", x.count(4), 1);
        Check.due("life of the side 1", x.count(11), 10);
        x.end();
        x.end();
        x.strike(2);
        Check.due("a life of 1 stands", x.count(4), 1);
        Check.due("life of the side 1", x.count(11), 1);
        x.end();
        x.strike(2);
        Check.due("none stands", x.count(4), 0);
        Check.due("no life", x.count(11), 0);
        Check.due("fighters", x.count(0), 4);
        Check.due("standing of the side 0", x.count(3), 2);
    }

    private static void turnsThatBegan() {
        TurnTracker x = Scene.line(2);
        int turns = x.count(9);
        x.end();
        Check.due("one", x.count(9), turns + 1);
        x.curse(0, 0, 1);
        Check.due("also one that ends at once", x.count(9), turns + 3);
        x.undo();
        Check.due("undone", x.count(9), turns + 1);
        TurnTracker y = EdgeFightersTest.dying();
        int before = y.count(9);
        y.end();
        Check.due("also one that ends by falling", y.count(9), before + 2);
        y.begin();
        Check.due("none", y.count(9), before + 2);
    }

    private static void savedStates() {
        TurnTracker x = new TurnTracker();
        for (int i = 0; i <= 9; i++) {
            Check.due("saved", x.count(12), Math.min(i, 6));
            x.begin();
        }
        for (int i = 5; i >= 0; i--) {
            x.undo();
            Check.due("saved", x.count(12), i);
        }
    }
}
