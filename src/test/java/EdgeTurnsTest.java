/** The boundary cases of 'Turns, rounds' and 'Delaying' and of the promises 8, 10, 11: delay, end, comeIn. */
public final class EdgeTurnsTest {
    public static void main(String[] args) {
        behindTheLastTheNextRound();
        theFallenHaveNoTurns();
        oneAloneHasEachTurn();
        allHaveFallen();
        allFallByEachWayToEnd();
        manyTurnsEndAtOnce();
        delaysEndWithTheRound();
        delayOfTheFirstAndOfTheLast();
        allDelay();
        comeInBehindTheLast();
        comeInBehindTheFirst();
        comeInTakesTheInitiative();
        comeInOfAStunnedOne();
        comeInOfNine();
        comeInJustOnce();
        comeInRefused();
        comeInOfAFallenOne();
        nobodyHasTheTurn();
        Check.finish();
    }

    private static void behindTheLastTheNextRound() {
        for (int number = 1; number <= 10; number++) {
            TurnTracker x = Scene.line(number);
            int round = x.count(1);
            int turns = x.count(9);
            for (int ended = 1; ended <= 2 * number; ended++) {
                Check.due("end", x.end(), ended % number);
                Check.due("round", x.count(1), round + ended / number);
                Check.due("turns", x.count(9), turns + ended);
            }
        }
    }

    private static void theFallenHaveNoTurns() {
        for (int fallen = 1; fallen <= 3; fallen++) {
            int[][] fighters = {{0, 40, 50, 5, 5}, {0, 30, 50, 5, 5}, {0, 20, 50, 5, 5}, {0, 10, 50, 5, 5}};
            fighters[fallen][2] = 5;
            TurnTracker x = Scene.of(fighters);
            x.strike(fallen);
            int turn = x.count(2);
            Check.due("turn", turn, fallen == 1 ? 2 : 1);
            for (int i = 0; i < 8; i++) {
                turn = (turn + 1) % 4 == fallen ? (turn + 2) % 4 : (turn + 1) % 4;
                Check.due("end", x.end(), turn);
            }
            Check.dueRow("the fallen one stays", x, 0, 1, 2, 3);
        }
        // The first one falls: the round begins with the second.
        TurnTracker x = Scene.of(new int[][] {{0, 40, 5, 5, 5}, {0, 30, 50, 5, 5}, {0, 20, 50, 5, 5}});
        x.end();
        x.strike(0);
        int round = x.count(1);
        Check.due("end", x.end(), 1);
        Check.due("round", x.count(1), round + 1);
    }

    private static void oneAloneHasEachTurn() {
        TurnTracker x = Scene.of(new int[][] {{0, 40, 50, 5, 5}, {1, 30, 5, 5, 5}});
        int round = x.count(1);
        x.strike(1);
        Check.due("strike: 0 again", x.count(2), 0);
        Check.due("end: 0 again", x.end(), 0);
        Check.due("delay: 0 again", x.delay(), 0);
        Check.due("delays no more", x.fighter(0, 7), 0);
        Check.due("ready: 0 again", x.ready(0, 1, -1, 0), 0);
        Check.due("the readied act is lost", x.readied(0, 0), -1);
        Check.due("step", x.step(5), 0);
        Check.due("rounds", x.count(1), round + 5);
    }

    private static void allHaveFallen() {
        TurnTracker x = EdgeFightersTest.dying();
        int round = x.count(1);
        int turns = x.count(9);
        Check.due("end", x.end(), -1);
        Check.due("turn", x.count(2), -1);
        // 1 fell in this round, 0 in the next one; no other round began.
        Check.due("round", x.count(1), round + 1);
        Check.due("turns", x.count(9), turns + 2);
        Check.due("standing", x.count(3) + x.count(4), 0);
        Check.due("life", x.count(10) + x.count(11), 0);
        Check.due("undo", x.undo(), 5);
        Check.due("turn", x.count(2), 0);
        Check.due("round", x.count(1), round);
    }

    private static void allFallByEachWayToEnd() {
        for (int way = 0; way < 6; way++) {
            TurnTracker x = EdgeFightersTest.dying();
            switch (way) {
                case 0 -> Check.due("end", x.end(), -1);
                case 1 -> Check.due("delay", x.delay(), -1);
                case 2 -> Check.due("ready", x.ready(0, 1, -1, 0), -1);
                case 3 -> Check.due("step", x.step(3), 3);
                case 4 -> Check.due("curse", x.curse(1, 0, 1), 1);
                default -> {
                    Check.type(x, "e;e");
                    Check.due("run: the second order has no turn", x.run(), 1);
                }
            }
            Check.due("nobody has the turn", x.count(2), -1);
            Check.dueThrow(x, "end", Check.STATE, x::end);
        }
    }

    /** 2 bleeds to death, while 0 and 1 are stunned for long: many turns and rounds end at once. */
    private static void manyTurnsEndAtOnce() {
        TurnTracker x = Scene.of(new int[][] {{0, 40, 50, 5, 5}, {0, 30, 50, 5, 5}, {1, 20, 5, 5, 5}});
        x.curse(2, 3, 5);
        x.end();
        Check.due("2 bled", x.fighter(2, 2), 3);
        x.curse(1, 0, 5);
        x.end();
        Check.due("2 bled, 1 was stunned", x.fighter(2, 2), 1);
        int round = x.count(1);
        int turns = x.count(9);
        x.curse(0, 0, 5);
        // In the next round 0 and 1 are stunned, and 2 falls; then 1 is free after 3 turns more of its own.
        Check.due("turn", x.count(2), 1);
        Check.due("stun of 1", x.fighter(1, 8), 0);
        Check.due("stun of 0", x.fighter(0, 8), 0);
        Check.due("fallen", x.fighter(2, 7), 3);
        Check.due("round", x.count(1), round + 5);
        Check.due("turns", x.count(9), turns + 11);
    }

    private static void delaysEndWithTheRound() {
        TurnTracker x = Scene.line(3);
        x.delay();
        x.delay();
        Check.due("delaying", x.count(5), 2);
        Check.due("end: the round ends", x.end(), 0);
        Check.due("delaying", x.count(5), 0);
        Check.due("status", x.fighter(0, 7) + x.fighter(1, 7), 0);
        Check.dueRow("as it stood", x, 0, 1, 2);
        Check.due("1 has a turn, too", x.end(), 1);
        Check.dueThrow(x, "comeIn of one who does not delay any more", Check.STATE, () -> x.comeIn(0));
    }

    private static void delayOfTheFirstAndOfTheLast() {
        TurnTracker x = Scene.line(3);
        int acts = x.count(7);
        Check.due("the first one delays", x.delay(), 1);
        Check.due("status", x.fighter(0, 7), 1);
        Check.due("initiative stays", x.fighter(0, 1), 40);
        x.end();
        Check.due("the last one delays: the next round", x.delay(), 0);
        Check.due("delaying", x.count(5), 0);
        Check.due("no acts", x.count(7), acts);
    }

    private static void allDelay() {
        TurnTracker x = Scene.line(10);
        int round = x.count(1);
        for (int i = 0; i < 9; i++) {
            Check.due("delay", x.delay(), i + 1);
            Check.due("delaying", x.count(5), i + 1);
        }
        Check.due("round", x.count(1), round);
        Check.due("the tenth delay", x.delay(), 0);
        Check.due("delaying", x.count(5), 0);
        Check.due("round", x.count(1), round + 1);
    }

    private static void comeInBehindTheLast() {
        TurnTracker x = Scene.line(3);
        int round = x.count(1);
        x.delay();
        x.end();
        Check.due("comeIn", x.comeIn(0), 38);
        Check.dueRow("last", x, 1, 2, 0);
        Check.due("a turn in this round", x.end(), 0);
        Check.due("round", x.count(1), round);
        Check.due("end", x.end(), 1);
        Check.due("round", x.count(1), round + 1);
    }

    private static void comeInBehindTheFirst() {
        TurnTracker x = Scene.line(3);
        x.delay();
        Check.due("comeIn", x.comeIn(0), 39);
        Check.dueRow("behind the one next to it", x, 1, 0, 2);
        Check.due("the turn stays", x.count(2), 1);
        Check.due("end", x.end(), 0);
        Check.due("the act of the one who came in", x.strike(2), 5);
        Check.due("turn", x.count(2), 2);
    }

    private static void comeInTakesTheInitiative() {
        TurnTracker x = new TurnTracker();
        x.come(0, 40, 9, 1);
        x.come(1, 0, 9, 1);
        x.begin();
        x.delay();
        int turns = x.count(9);
        Check.due("comeIn", x.comeIn(0), 0);
        Check.due("initiative", x.fighter(0, 1), 0);
        Check.due("initiative of the other", x.fighter(1, 1), 0);
        Check.due("no turn began", x.count(9), turns);
        Check.dueRow("behind", x, 1, 0);
        Check.due("come of 0: behind both", x.come(0, 0, 9, 1), 2);
        Check.due("come of 1: ahead of both", x.come(0, 1, 9, 1), 3);
        Check.dueRow("by initiative", x, 3, 1, 0, 2);
    }

    private static void comeInOfAStunnedOne() {
        TurnTracker x = Scene.line(3);
        x.delay();
        x.curse(0, 0, 2);
        Check.due("comeIn", x.comeIn(0), 38);
        Check.due("end: the turn of 0 ends at once", x.end(), 1);
        Check.due("stun", x.fighter(0, 8), 1);
        Check.due("0 delays no more", x.fighter(0, 7), 0);
    }

    private static void comeInOfNine() {
        TurnTracker x = Scene.line(10);
        for (int i = 0; i < 9; i++) {
            x.delay();
        }
        for (int i = 8; i >= 0; i--) {
            Check.due("comeIn", x.comeIn(i), 31);
            Check.due("delaying", x.count(5), i);
        }
        Check.dueRow("the last one who came in stands next", x, 9, 0, 1, 2, 3, 4, 5, 6, 7, 8);
        for (int i = 0; i < 9; i++) {
            Check.due("end", x.end(), i);
        }
        Check.due("end", x.end(), 9);
    }

    private static void comeInJustOnce() {
        TurnTracker x = Scene.line(3);
        x.delay();
        x.comeIn(0);
        Check.dueThrow(x, "comeIn again", Check.STATE, () -> x.comeIn(0));
        x.end();
        Check.due("delay again", x.delay(), 2);
        Check.due("comeIn in the same round", x.comeIn(0), 38);
        Check.due("end", x.end(), 0);
    }

    private static void comeInRefused() {
        TurnTracker x = Scene.line(3);
        for (int fighter : new int[] {-1, 3, 10, Integer.MIN_VALUE, Integer.MAX_VALUE}) {
            Check.dueThrow(x, "comeIn of " + fighter, Check.BOUNDS, () -> x.comeIn(fighter));
        }
        for (int fighter = 0; fighter <= 2; fighter++) {
            int f = fighter;
            Check.dueThrow(x, "comeIn of one who does not delay", Check.STATE, () -> x.comeIn(f));
        }
        x.ready(0, 1, -1, 0);
        Check.dueThrow(x, "comeIn of one who has readied", Check.STATE, () -> x.comeIn(0));
    }

    private static void comeInOfAFallenOne() {
        TurnTracker x = Scene.of(new int[][] {{0, 40, 6, 5, 5}, {1, 30, 50, 5, 5}, {1, 20, 50, 5, 5}, {0, 10, 50, 5, 5}});
        x.delay();
        x.strike(0);
        Check.due("a life of 1: delaying", x.count(5), 1);
        Check.due("status", x.fighter(0, 7), 1);
        x.strike(0);
        Check.due("fallen: not delaying", x.count(5), 0);
        Check.due("status", x.fighter(0, 7), 3);
        Check.dueThrow(x, "comeIn", Check.STATE, () -> x.comeIn(0));
        x.undo();
        Check.due("comeIn with a life of 1", x.comeIn(0), 20);
    }

    private static void nobodyHasTheTurn() {
        TurnTracker ahead = new TurnTracker();
        ahead.come(0, 20, 9, 1);
        ahead.come(1, 20, 9, 1);
        TurnTracker fallen = EdgeFightersTest.dying();
        fallen.delay();
        Check.due("one who delays has fallen", fallen.fighter(0, 7), 3);
        for (TurnTracker x : new TurnTracker[] {ahead, fallen}) {
            Check.dueThrow(x, "end", Check.STATE, x::end);
            Check.dueThrow(x, "delay", Check.STATE, x::delay);
            Check.dueThrow(x, "comeIn", Check.STATE, () -> x.comeIn(0));
            Check.dueThrow(x, "comeIn", Check.BOUNDS, () -> x.comeIn(2));
            Check.dueThrow(x, "comeIn", Check.BOUNDS, () -> x.comeIn(-1));
            Check.due("nobody", x.count(2), -1);
        }
    }
}
