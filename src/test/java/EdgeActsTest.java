/** The boundary cases of 'Acts' and 'Conditions' and of the promises 4 to 7: strike, step, help, curse. */
public final class EdgeActsTest {
    public static void main(String[] args) {
        strikeReachesTwoPlaces();
        strikeTakesAtMostAll();
        strikeOfTheBlessedAndTheSlowed();
        strikeAtWhomItCanBe();
        strikeRefused();
        stepReachesThreePlaces();
        stepOfTheSlowedReachesOne();
        stepRefused();
        helpReachesTwoPlaces();
        helpUpToTheMost();
        helpEndsBleedingAlone();
        helpRefused();
        curseReachesAll();
        curseAtBothEnds();
        curseLastsTheGreaterOfBoth();
        curseRefused();
        nobodyHasTheTurn();
        eachConditionLastsItsRounds();
        oneRoundLessHoweverTheTurnEnds();
        allFourConditionsAtOnce();
        bleedingTakesTwoOrAllThatIsLeft();
        aStunEndsTheTurnAtOnce();
        Check.finish();
    }

    private static boolean isNear(int place) {
        return place >= 3 && place <= 7;
    }

    private static void strikeReachesTwoPlaces() {
        for (int place = 0; place <= 9; place++) {
            TurnTracker x = Scene.of(new int[][] {{0, 20, 50, 5, 5}, {1, 10, 50, 5, place}});
            Check.due("possible at " + place, x.ifDone(0, 1, 0), isNear(place) ? 1 : 0);
            if (isNear(place)) {
                Check.due("strike at " + place, x.strike(1), 5);
            } else {
                Check.dueThrow(x, "strike at " + place, Check.STATE, () -> x.strike(1));
                Check.due("life", x.fighter(1, 2), 50);
            }
        }
    }

    private static void strikeTakesAtMostAll() {
        int[][] lifeAndLoss = {{1, 1}, {4, 4}, {5, 5}, {6, 5}, {99, 5}};
        for (int[] l : lifeAndLoss) {
            TurnTracker x = Scene.of(new int[][] {{0, 20, 50, 5, 5}, {1, 10, l[0], 5, 5}});
            Check.due("strike at a life of " + l[0], x.strike(1), l[1]);
            Check.due("life", x.fighter(1, 2), l[0] - l[1]);
            Check.due("fallen", x.fighter(1, 7), l[0] <= 5 ? 3 : 0);
            Check.due("standing of the side 1", x.count(4), l[0] <= 5 ? 0 : 1);
            Check.due("taken", x.fighter(0, 13), l[1]);
            Check.due("the fallen one has no turn", x.count(2), l[0] <= 5 ? 0 : 1);
        }
        TurnTracker y = Scene.of(new int[][] {{0, 20, 50, 20, 5}, {1, 10, 99, 1, 5}});
        Check.due("most force", y.strike(1), 20);
        Check.due("least force", y.strike(0), 1);
    }

    private static void strikeOfTheBlessedAndTheSlowed() {
        // Force, blessed, slowed, the loss.
        int[][] cases = {{1, 0, 1, 0}, {2, 0, 1, 1}, {3, 0, 1, 1}, {20, 0, 1, 10}, {19, 0, 1, 9}, {1, 1, 0, 4}, {20, 1, 0, 23},
            {1, 1, 1, 2}, {2, 1, 1, 2}, {3, 1, 1, 3}, {20, 1, 1, 11}};
        for (int[] c : cases) {
            TurnTracker x = Scene.of(new int[][] {{0, 20, 50, c[0], 5}, {1, 10, 99, 5, 5}, {1, 5, 99, 5, 5}});
            x.end();
            curseIf(x, c[1] == 1, 2);
            curseIf(x, c[2] == 1, 1);
            Check.due("turn", x.count(2), 0);
            Check.due("strike of force " + c[0], x.strike(1), c[3]);
            Check.due("no condition lasts", x.fighter(0, 9) + x.fighter(0, 10), 0);
            Check.due("nothing failed", x.count(8), 0);
        }
        TurnTracker y = Scene.of(new int[][] {{0, 20, 50, 5, 5}, {1, 10, 8, 5, 5}});
        y.end();
        y.curse(0, 2, 1);
        Check.due("all of 8", y.strike(1), 8);
        Check.due("fallen", y.fighter(1, 7), 3);
    }

    private static void curseIf(TurnTracker x, boolean wanted, int condition) {
        if (wanted) {
            x.curse(0, condition, 1);
        } else {
            x.end();
        }
    }

    private static void strikeAtWhomItCanBe() {
        TurnTracker x = Scene.line(3);
        Check.dueThrow(x, "self", Check.STATE, () -> x.strike(0));
        Check.due("the own side", x.strike(2), 5);
        Check.due("the last number", x.strike(2), 5);
        Check.due("the first number", x.strike(0), 5);
        TurnTracker y = Scene.of(new int[][] {{0, 30, 50, 5, 5}, {1, 20, 5, 5, 5}, {1, 10, 50, 5, 5}});
        y.strike(1);
        Check.dueThrow(y, "a fallen one, of the own side", Check.STATE, () -> y.strike(1));
        y.end();
        Check.dueThrow(y, "a fallen one", Check.STATE, () -> y.strike(1));
    }

    private static void strikeRefused() {
        for (int n = 1; n <= 10; n += 9) {
            TurnTracker x = Scene.line(n);
            for (int goal : new int[] {-1, n, n + 1, Integer.MIN_VALUE, Integer.MAX_VALUE}) {
                Check.dueThrow(x, "strike at " + goal, Check.BOUNDS, () -> x.strike(goal));
                Check.dueThrow(x, "help for " + goal, Check.BOUNDS, () -> x.help(goal));
                Check.dueThrow(x, "curse on " + goal, Check.BOUNDS, () -> x.curse(goal, 0, 1));
                Check.dueThrow(x, "curse on " + goal + ", all wrong", Check.BOUNDS, () -> x.curse(goal, 4, 6));
            }
            Check.due("the turn stays", x.count(2), 0);
        }
    }

    private static void stepReachesThreePlaces() {
        for (int from = 0; from <= 9; from++) {
            for (int to = 0; to <= 9; to++) {
                TurnTracker x = Scene.of(new int[][] {{from % 2, 20, 50, 5, from}});
                int place = to;
                int far = Math.abs(to - from);
                Check.due("possible " + from + " to " + to, x.ifDone(1, to, 0), far <= 3 ? 1 : 0);
                if (far <= 3) {
                    Check.due("step " + from + " to " + to, x.step(to), far);
                    Check.due("place", x.fighter(0, 5), to);
                    Check.due("acts", x.fighter(0, 12), 4);
                } else {
                    Check.dueThrow(x, "step " + from + " to " + to, Check.STATE, () -> x.step(place));
                    Check.due("place", x.fighter(0, 5), from);
                }
            }
        }
    }

    private static void stepOfTheSlowedReachesOne() {
        for (int to = 0; to <= 9; to++) {
            TurnTracker x = Scene.of(new int[][] {{0, 20, 50, 5, 5}, {1, 10, 50, 5, 9}});
            x.end();
            x.curse(0, 1, 1);
            int place = to;
            int far = Math.abs(to - 5);
            if (far <= 1) {
                Check.due("step, slowed, to " + to, x.step(to), far);
            } else {
                Check.dueThrow(x, "step, slowed, to " + to, Check.STATE, () -> x.step(place));
                x.end();
            }
            x.end();
            int behind = x.fighter(0, 5);
            Check.dueThrow(x, "slow no more, 4 far", Check.STATE, () -> x.step(behind - 4));
            Check.due("slow no more, 3 far", x.step(behind - 3), 3);
        }
    }

    private static void stepRefused() {
        TurnTracker first = Scene.of(new int[][] {{0, 20, 50, 5, 0}});
        TurnTracker last = Scene.of(new int[][] {{0, 20, 50, 5, 9}});
        for (int place : new int[] {-1, 10, Integer.MIN_VALUE, Integer.MAX_VALUE}) {
            Check.dueThrow(first, "step to " + place, Check.ARGUMENT, () -> first.step(place));
            Check.dueThrow(last, "step to " + place, Check.ARGUMENT, () -> last.step(place));
        }
        Check.due("the least place", first.step(0), 0);
        Check.due("the last place", last.step(9), 0);
    }

    private static void helpReachesTwoPlaces() {
        for (int place = 0; place <= 9; place++) {
            TurnTracker x = Scene.of(new int[][] {{0, 20, 50, 5, 5}, {0, 10, 50, 5, place}});
            if (isNear(place)) {
                Check.due("help at " + place, x.help(1), 50);
            } else {
                Check.dueThrow(x, "help at " + place, Check.STATE, () -> x.help(1));
            }
        }
    }

    private static void helpUpToTheMost() {
        for (int lost = 0; lost <= 6; lost++) {
            TurnTracker x = Scene.of(new int[][] {{0, 20, 50, Math.max(1, lost), 5}, {0, 10, 7, 5, 5}});
            if (lost > 0) {
                x.strike(1);
                x.end();
            }
            Check.due("life", x.fighter(1, 2), 7 - lost);
            Check.due("help, " + lost + " lost", x.help(1), Math.min(7, 11 - lost));
            Check.due("life", x.fighter(1, 2), Math.min(7, 11 - lost));
            Check.due("most life", x.fighter(1, 3), 7);
        }
    }

    private static void helpEndsBleedingAlone() {
        TurnTracker x = Scene.of(new int[][] {{0, 30, 50, 5, 5}, {1, 20, 50, 5, 5}, {0, 10, 50, 5, 5}});
        x.end();
        x.curse(2, 3, 5);
        x.end();
        x.end();
        x.curse(2, 1, 5);
        x.end();
        x.end();
        x.curse(2, 2, 5);
        Check.due("bled three times", x.fighter(2, 2), 44);
        x.end();
        Check.due("bleeds", x.fighter(2, 11), 2);
        Check.due("help", x.help(2), 48);
        Check.due("bleeds no more", x.fighter(2, 11), 0);
        Check.due("slowed still", x.fighter(2, 9), 3);
        Check.due("blessed still", x.fighter(2, 10), 4);
        x.end();
        Check.due("has not bled", x.fighter(2, 2), 48);
        Check.due("help of one who does not bleed", x.help(0), 50);
        TurnTracker y = Scene.of(new int[][] {{1, 40, 50, 5, 5}, {0, 30, 50, 5, 5}, {0, 20, 50, 5, 5}});
        y.curse(2, 0, 3);
        y.help(2);
        Check.due("stunned still, though helped", y.fighter(2, 8), 2);
        Check.due("the turn of 2 ended at once", y.count(2), 0);
    }

    private static void helpRefused() {
        TurnTracker x = Scene.of(new int[][] {{0, 30, 50, 5, 5}, {1, 20, 50, 9, 5}, {0, 10, 9, 5, 5}, {0, 9, 9, 5, 8}});
        Check.dueThrow(x, "self", Check.STATE, () -> x.help(0));
        Check.dueThrow(x, "a foe", Check.STATE, () -> x.help(1));
        Check.dueThrow(x, "3 places away", Check.STATE, () -> x.help(3));
        x.end();
        x.strike(2);
        x.end();
        Check.dueThrow(x, "a fallen one", Check.STATE, () -> x.help(2));
        Check.due("life", x.fighter(2, 2), 0);
    }

    private static void curseReachesAll() {
        for (int place = 0; place <= 9; place++) {
            TurnTracker x = Scene.of(new int[][] {{0, 20, 50, 5, 0}, {1, 10, 50, 5, place}});
            Check.due("curse at " + place, x.curse(1, 1, 1), 1);
        }
    }

    private static void curseAtBothEnds() {
        for (int condition = 0; condition <= 3; condition++) {
            for (int rounds = 1; rounds <= 5; rounds++) {
                TurnTracker x = Scene.line(2);
                Check.due("curse", x.curse(1, condition, rounds), rounds);
                int left = condition == 0 ? rounds - 1 : rounds;
                for (int c = 0; c <= 3; c++) {
                    Check.due("rounds of " + c, x.fighter(1, 8 + c), c == condition ? left : 0);
                    Check.due("rounds of the one who cursed", x.fighter(0, 8 + c), 0);
                }
            }
        }
        TurnTracker x = Scene.line(2);
        for (int rounds : new int[] {0, 6, -1, Integer.MIN_VALUE, Integer.MAX_VALUE}) {
            Check.dueThrow(x, "rounds " + rounds, Check.ARGUMENT, () -> x.curse(1, 3, rounds));
            Check.dueThrow(x, "rounds " + rounds + " on self", Check.ARGUMENT, () -> x.curse(0, 0, rounds));
        }
        for (int condition : new int[] {-1, 4, Integer.MIN_VALUE, Integer.MAX_VALUE}) {
            Check.dueThrow(x, "condition " + condition, Check.ARGUMENT, () -> x.curse(1, condition, 1));
            Check.dueThrow(x, "condition " + condition + " on self", Check.ARGUMENT, () -> x.curse(0, condition, 5));
        }
    }

    private static void curseLastsTheGreaterOfBoth() {
        for (int condition = 0; condition <= 3; condition++) {
            for (int had = 1; had <= 5; had++) {
                for (int more = 1; more <= 5; more++) {
                    // 2 curses, too, before the turn of 1 comes.
                    TurnTracker x = Scene.of(new int[][] {{0, 30, 50, 5, 5}, {1, 10, 50, 5, 5}, {0, 20, 50, 5, 5}});
                    x.curse(1, condition, had);
                    Check.due("curse", x.curse(1, condition, more), Math.max(had, more));
                    int passed = condition == 0 ? 1 : 0;
                    Check.due("rounds", x.fighter(1, 8 + condition), Math.max(had, more) - passed);
                    Check.due("acts", x.fighter(2, 12), 4);
                }
            }
        }
    }

    private static void curseRefused() {
        TurnTracker x = Scene.of(new int[][] {{0, 30, 50, 9, 5}, {1, 20, 9, 9, 5}, {0, 10, 9, 5, 5}});
        Check.dueThrow(x, "self", Check.STATE, () -> x.curse(0, 0, 1));
        Check.dueThrow(x, "the own side", Check.STATE, () -> x.curse(2, 0, 1));
        x.strike(1);
        Check.dueThrow(x, "a fallen one", Check.STATE, () -> x.curse(1, 0, 1));
        Check.dueThrow(x, "a fallen one, wrong", Check.ARGUMENT, () -> x.curse(1, 0, 6));
    }

    private static void nobodyHasTheTurn() {
        TurnTracker ahead = new TurnTracker();
        ahead.come(0, 20, 9, 1);
        ahead.come(0, 20, 9, 1);
        TurnTracker fallen = EdgeFightersTest.dying();
        fallen.end();
        for (TurnTracker x : new TurnTracker[] {ahead, fallen}) {
            for (int goal = 0; goal <= 1; goal++) {
                int f = goal;
                Check.dueThrow(x, "strike", Check.STATE, () -> x.strike(f));
                Check.dueThrow(x, "help", Check.STATE, () -> x.help(f));
                Check.dueThrow(x, "curse", Check.STATE, () -> x.curse(f, 0, 1));
                Check.dueThrow(x, "curse", Check.ARGUMENT, () -> x.curse(f, 4, 1));
                Check.dueThrow(x, "step", Check.STATE, () -> x.step(f));
            }
            Check.dueThrow(x, "strike", Check.BOUNDS, () -> x.strike(2));
            Check.dueThrow(x, "strike", Check.BOUNDS, () -> x.strike(-1));
            Check.dueThrow(x, "help", Check.BOUNDS, () -> x.help(2));
            Check.dueThrow(x, "help", Check.BOUNDS, () -> x.help(-1));
            Check.dueThrow(x, "curse", Check.BOUNDS, () -> x.curse(2, 0, 1));
            Check.dueThrow(x, "curse", Check.BOUNDS, () -> x.curse(-1, 4, 6));
            Check.dueThrow(x, "step", Check.ARGUMENT, () -> x.step(10));
            Check.dueThrow(x, "step", Check.ARGUMENT, () -> x.step(-1));
        }
    }

    /** 1 is cursed, then each turn of it is looked at: what the condition does, and how many rounds are left. */
    private static void eachConditionLastsItsRounds() {
        for (int rounds = 1; rounds <= 5; rounds++) {
            for (int condition = 0; condition <= 3; condition++) {
                TurnTracker x = Scene.of(new int[][] {{0, 20, 99, 5, 5}, {1, 10, 99, 4, 5}});
                x.curse(1, condition, rounds);
                for (int left = rounds; left >= 0; left--) {
                    if (condition == 0 && left > 0) {
                        Check.due("stunned: 0 again", x.count(2), 0);
                        Check.due("stunned: rounds", x.fighter(1, 8), left - 1);
                        x.end();
                        continue;
                    }
                    Check.due("turn", x.count(2), 1);
                    Check.due("rounds", x.fighter(1, 8 + condition), left);
                    boolean lasts = left > 0;
                    Check.due("bled", x.fighter(1, 2), condition == 3 ? 99 - 2 * (rounds - left + (lasts ? 1 : 0)) : 99);
                    Check.due("reach", x.ifDone(1, 2, 0), condition == 1 && lasts ? 0 : 1);
                    int loss = lasts && condition == 1 ? 2 : lasts && condition == 2 ? 7 : 4;
                    Check.due("strike", x.strike(0), loss);
                    Check.due("rounds", x.fighter(1, 8 + condition), Math.max(0, left - 1));
                    x.end();
                }
            }
        }
    }

    private static void oneRoundLessHoweverTheTurnEnds() {
        for (int way = 0; way < 8; way++) {
            TurnTracker x = Scene.of(new int[][] {{0, 20, 99, 5, 5}, {1, 10, 99, 4, 5}, {1, 5, 99, 4, 5}});
            x.curse(1, 1, 3);
            switch (way) {
                case 0 -> x.strike(0);
                case 1 -> x.step(5);
                case 2 -> x.help(2);
                case 3 -> x.curse(0, 2, 1);
                case 4 -> x.delay();
                case 5 -> x.ready(0, 0, 0, 0);
                case 6 -> x.end();
                default -> {
                    Check.type(x, "e");
                    x.run();
                }
            }
            Check.due("turn", x.count(2), 2);
            Check.due("rounds of 1, way " + way, x.fighter(1, 9), 2);
        }
        // An act that fails ends the turn, too; also if its fighter falls by the readied strike.
        for (int life = 5; life <= 6; life++) {
            TurnTracker x = Scene.of(new int[][] {{0, 20, 99, 5, 5}, {1, 10, life, 4, 5}, {0, 30, 99, 5, 5}});
            x.ready(0, 1, 1, 0);
            x.curse(1, 1, 3);
            Check.due("strike", x.strike(0), life == 5 ? -1 : 2);
            Check.due("rounds", x.fighter(1, 9), 2);
        }
        // A turn that ends at once by falling.
        TurnTracker y = Scene.of(new int[][] {{0, 20, 99, 5, 5}, {1, 10, 2, 4, 5}});
        y.curse(1, 3, 4);
        Check.due("fallen", y.fighter(1, 7), 3);
        Check.due("rounds", y.fighter(1, 11), 3);
        y.end();
        Check.due("no turn, no round less", y.fighter(1, 11), 3);
    }

    private static void allFourConditionsAtOnce() {
        // 0, 2, 3 and 4 curse 1 before its turn.
        TurnTracker x = Scene.of(new int[][] {{0, 40, 50, 5, 5}, {1, 10, 50, 5, 5}, {0, 35, 50, 5, 5}, {0, 30, 50, 5, 5},
            {0, 25, 50, 5, 5}});
        x.curse(1, 1, 5);
        x.curse(1, 2, 4);
        x.curse(1, 3, 3);
        x.curse(1, 0, 2);
        int[] rounds = {1, 4, 3, 2};
        for (int condition = 0; condition <= 3; condition++) {
            Check.due("rounds of " + condition, x.fighter(1, 8 + condition), rounds[condition]);
        }
        Check.due("bled in the turn that ended at once", x.fighter(1, 2), 48);
        Check.due("turn", x.count(2), 0);
    }

    private static void bleedingTakesTwoOrAllThatIsLeft() {
        for (int life = 1; life <= 4; life++) {
            TurnTracker x = Scene.of(new int[][] {{0, 20, 50, 5, 5}, {1, 10, life, 5, 5}});
            int turns = x.count(9);
            x.curse(1, 3, 5);
            Check.due("life of " + life, x.fighter(1, 2), Math.max(0, life - 2));
            Check.due("fallen", x.fighter(1, 7), life <= 2 ? 3 : 0);
            Check.due("turn", x.count(2), life <= 2 ? 0 : 1);
            Check.due("turns", x.count(9), turns + (life <= 2 ? 2 : 1));
            Check.due("life of the side 1", x.count(11), Math.max(0, life - 2));
            Check.due("taken by no strike", x.fighter(0, 13), 0);
        }
    }

    private static void aStunEndsTheTurnAtOnce() {
        TurnTracker x = Scene.line(2);
        int turns = x.count(9);
        int round = x.count(1);
        Check.due("curse tells the rounds before the turn", x.curse(1, 0, 1), 1);
        Check.due("it is over", x.fighter(1, 8), 0);
        Check.due("turns", x.count(9), turns + 2);
        Check.due("round", x.count(1), round + 1);
        Check.due("turn", x.count(2), 0);
        Check.due("no act, no failure", x.count(8), 0);
        Check.due("end: stunned no more", x.end(), 1);
    }
}
