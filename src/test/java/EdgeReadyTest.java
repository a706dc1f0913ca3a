/** The boundary cases of 'Readying' and of the promises 9 and 18: ready, readied. */
public final class EdgeReadyTest {
    public static void main(String[] args) {
        eachArgumentOfReady();
        readyRefused();
        exceptionsInTheirOrder();
        readiedTellsEachPart();
        readyAsksNotWhetherItIsPossible();
        theFirstAndTheLastOneAsCause();
        eachKindIsACauseJustForItself();
        anyOneOfTheOtherSideAlone();
        nineReadiedActsAtOnce();
        noneIsReadied();
        usedUpDoneOrFailed();
        readiedReachesTwoPlaces();
        readiedAtTheCauseBeforeItSteps();
        theCauseWithJustEnoughLife();
        theCauseIsNotPossibleAnyMore();
        aReadierFallsMeanwhile();
        theGoalFallsMeanwhile();
        aStunOfOneRound();
        theFallenAreNotSetOff();
        theOrderOfTheRowAtTheBeginning();
        movesFromAheadAndFromBehind();
        readiedActsAreNoCauses();
        aFallenGoalAndAFallenCause();
        lostAsTheTurnBegins();
        Check.finish();
    }

    private static void eachArgumentOfReady() {
        for (int kind = 0; kind <= 2; kind += 2) {
            for (int cause = 0; cause <= 3; cause++) {
                for (int who = -1; who <= 9; who++) {
                    if (who == 4) {
                        continue;
                    }
                    int goal = who == 9 ? 0 : 9;
                    TurnTracker x = Scene.line(10);
                    Scene.turnTo(x, 4);
                    Check.due("ready", x.ready(kind, goal, who, cause), 5);
                    int[] due = {kind, goal, who, cause};
                    for (int what = 0; what <= 3; what++) {
                        Check.due("readied(4, " + what + ")", x.readied(4, what), due[what]);
                    }
                    Check.due("status", x.fighter(4, 7), 2);
                    Check.due("readied acts", x.count(6), 1);
                }
            }
        }
    }

    private static void readyRefused() {
        TurnTracker x = Scene.line(3);
        for (int number : new int[] {-1, 3, 10, Integer.MIN_VALUE, Integer.MAX_VALUE}) {
            Check.dueThrow(x, "goal " + number, Check.BOUNDS, () -> x.ready(0, number, -1, 0));
            if (number != -1) {
                Check.dueThrow(x, "who " + number, Check.BOUNDS, () -> x.ready(0, 1, number, 0));
            }
        }
        Check.dueThrow(x, "who -2", Check.BOUNDS, () -> x.ready(0, 1, -2, 0));
        for (int kind : new int[] {-1, 1, 3, 4, Integer.MIN_VALUE, Integer.MAX_VALUE}) {
            Check.dueThrow(x, "kind " + kind, Check.ARGUMENT, () -> x.ready(kind, 1, -1, 0));
        }
        for (int cause : new int[] {-1, 4, Integer.MIN_VALUE, Integer.MAX_VALUE}) {
            Check.dueThrow(x, "cause " + cause, Check.ARGUMENT, () -> x.ready(2, 1, -1, cause));
        }
        Check.dueThrow(x, "the goal has the turn", Check.STATE, () -> x.ready(0, 0, -1, 0));
        Check.dueThrow(x, "the cause has the turn", Check.STATE, () -> x.ready(0, 1, 0, 0));
        Check.dueThrow(x, "both have the turn", Check.STATE, () -> x.ready(0, 0, 0, 0));
        Check.due("nothing is readied", x.count(6), 0);
        Check.due("the turn stays", x.count(2), 0);
        TurnTracker ahead = new TurnTracker();
        ahead.come(0, 1, 1, 1);
        ahead.come(0, 1, 1, 1);
        Check.dueThrow(ahead, "nobody has the turn", Check.STATE, () -> ahead.ready(0, 1, -1, 0));
        Check.dueThrow(ahead, "nobody has the turn", Check.STATE, () -> ahead.ready(0, 1, 0, 0));
        TurnTracker fallen = EdgeFightersTest.dying();
        fallen.end();
        Check.dueThrow(fallen, "nobody has the turn", Check.STATE, () -> fallen.ready(0, 1, -1, 0));
    }

    private static void exceptionsInTheirOrder() {
        TurnTracker turn = Scene.line(3);
        TurnTracker none = new TurnTracker();
        none.come(0, 1, 1, 1);
        none.come(0, 1, 1, 1);
        none.come(0, 1, 1, 1);
        for (TurnTracker x : new TurnTracker[] {turn, none}) {
            Check.dueThrow(x, "goal, kind, cause", Check.BOUNDS, () -> x.ready(1, 3, -1, 4));
            Check.dueThrow(x, "who, kind, cause", Check.BOUNDS, () -> x.ready(1, 1, 3, 4));
            Check.dueThrow(x, "goal is the turn's, who is none", Check.BOUNDS, () -> x.ready(0, 0, 3, 0));
            Check.dueThrow(x, "who is the turn's, goal is none", Check.BOUNDS, () -> x.ready(0, 3, 0, 0));
            Check.dueThrow(x, "kind, goal is the turn's", Check.ARGUMENT, () -> x.ready(1, 0, -1, 0));
            Check.dueThrow(x, "cause, who is the turn's", Check.ARGUMENT, () -> x.ready(0, 1, 0, 4));
        }
    }

    private static void readiedTellsEachPart() {
        TurnTracker x = Scene.line(10);
        for (int fighter = 0; fighter <= 9; fighter += 9) {
            for (int what = 0; what <= 3; what++) {
                Check.due("none readied", x.readied(fighter, what), -1);
            }
            for (int what : new int[] {-1, 4, Integer.MIN_VALUE, Integer.MAX_VALUE}) {
                int f = fighter;
                Check.dueThrow(x, "readied what " + what, Check.ARGUMENT, () -> x.readied(f, what));
            }
        }
        for (int fighter : new int[] {-1, 10, Integer.MIN_VALUE, Integer.MAX_VALUE}) {
            Check.dueThrow(x, "readied of " + fighter, Check.BOUNDS, () -> x.readied(fighter, 0));
            Check.dueThrow(x, "readied of " + fighter + ", what wrong", Check.BOUNDS, () -> x.readied(fighter, 4));
        }
        x.ready(0, 9, -1, 3);
        Check.due("NONE for any one", x.readied(0, 2), -1);
        Check.due("its kind is 0, not NONE", x.readied(0, 0), 0);
        Check.due("the other one has none", x.readied(9, 0), -1);
    }

    private static void readyAsksNotWhetherItIsPossible() {
        TurnTracker x = Scene.of(new int[][] {{0, 40, 50, 5, 0}, {1, 30, 50, 5, 9}, {1, 20, 5, 5, 9}});
        Check.due("a strike 9 places away", x.ready(0, 1, -1, 1), 1);
        x.strike(2);
        Check.due("help of the other side", x.ready(2, 1, -1, 1), 1);
        Check.due("help of a fallen one", x.ready(2, 2, 0, 1), 0);
        Check.due("a strike at a fallen one", x.ready(0, 2, 1, 1), 1);
        Check.due("failed so far", x.count(8), 0);
        Check.due("a fallen one as cause", x.ready(0, 0, 2, 1), 0);
        Check.due("readied of 1", x.readied(1, 2), 2);
    }

    private static void theFirstAndTheLastOneAsCause() {
        for (int who = 0; who <= 9; who += 9) {
            TurnTracker x = Scene.line(10);
            Scene.turnTo(x, 4);
            x.ready(0, 3, who, 1);
            Scene.turnTo(x, who == 9 ? 8 : 1);
            Check.due("another one", x.ifDone(1, 5, 1), 0);
            x.step(5);
            Check.due("readied still", x.readied(4, 0), 0);
            TurnTracker y = Scene.line(10);
            Scene.turnTo(y, 4);
            y.ready(0, 3, who, 1);
            Scene.turnTo(y, who);
            Check.due("this one", y.ifDone(1, 5, 1), 1);
            y.step(5);
            Check.due("struck", y.fighter(3, 2), 45);
            Check.due("used up", y.readied(4, 0), -1);
        }
    }

    private static void eachKindIsACauseJustForItself() {
        for (int cause = 0; cause <= 3; cause++) {
            for (int kind = 0; kind <= 3; kind++) {
                TurnTracker x = Scene.line(4);
                x.ready(0, 3, 1, cause);
                int goal = kind == 1 ? 5 : kind == 2 ? 3 : 2;
                Check.due("sets off", x.ifDone(kind, goal, 1), kind == cause ? 1 : 0);
                switch (kind) {
                    case 0 -> x.strike(2);
                    case 1 -> x.step(5);
                    case 2 -> x.help(3);
                    default -> x.curse(2, 2, 1);
                }
                Check.due("struck", x.fighter(3, 2), kind == cause ? kind == 2 ? 49 : 45 : 50);
                Check.due("readied", x.count(6), kind == cause ? 0 : 1);
                Check.due("initiative", x.fighter(0, 1), kind == cause ? 39 : 40);
            }
        }
    }

    private static void anyOneOfTheOtherSideAlone() {
        for (int cause = 1; cause <= 3; cause++) {
            TurnTracker x = Scene.of(new int[][] {{0, 40, 50, 5, 5}, {0, 30, 50, 5, 5}, {1, 20, 50, 5, 5}, {1, 10, 50, 5, 5}});
            x.ready(0, 3, -1, 1);
            Scene.turnTo(x, cause);
            Check.due("the side of " + cause, x.ifDone(1, 5, 1), cause >= 2 ? 1 : 0);
            x.step(5);
            Check.due("struck", x.fighter(3, 2), cause >= 2 ? 45 : 50);
        }
        TurnTracker y = Scene.of(new int[][] {{1, 40, 50, 5, 5}, {1, 30, 50, 5, 5}, {0, 20, 50, 5, 5}});
        y.ready(0, 1, -1, 1);
        Check.due("the own side", y.ifDone(1, 5, 1), 0);
        y.end();
        Check.due("the side 0", y.ifDone(1, 5, 1), 1);
    }

    private static void nineReadiedActsAtOnce() {
        TurnTracker x = Scene.line(10);
        int acts = x.count(7);
        for (int i = 0; i < 9; i++) {
            x.ready(0, 9, 9, 1);
        }
        Check.due("readied", x.count(6), 9);
        Check.due("sets off", x.ifDone(1, 6, 1), 9);
        Check.due("would be done", x.ifDone(1, 6, 2), 1);
        Check.due("step", x.step(6), 1);
        Check.due("struck nine times", x.fighter(9, 2), 5);
        Check.due("acts", x.count(7), acts + 10);
        Check.due("readied", x.count(6), 0);
        Check.dueRow("the order stays", x, 0, 1, 2, 3, 4, 5, 6, 7, 8, 9);
        for (int i = 0; i < 9; i++) {
            Check.due("initiative", x.fighter(i, 1), 31);
        }
    }

    private static void noneIsReadied() {
        TurnTracker x = Scene.line(10);
        Check.due("sets off", x.ifDone(1, 5, 1), 0);
        x.step(5);
        Check.due("failed", x.count(8), 0);
        Check.dueRow("the row stays", x, 0, 1, 2, 3, 4, 5, 6, 7, 8, 9);
    }

    private static void usedUpDoneOrFailed() {
        for (int place = 7; place <= 8; place++) {
            TurnTracker x = Scene.of(new int[][] {{0, 40, 50, 5, 5}, {1, 30, 50, 5, place}});
            int acts = x.count(7);
            x.ready(0, 1, 1, 1);
            Check.due("set off, whether it fails or not", x.ifDone(1, 9, 1), 1);
            Check.due("step", x.step(9), 9 - place);
            Check.due("acts", x.count(7), acts + (place == 7 ? 2 : 1));
            Check.due("failed", x.count(8), place == 7 ? 0 : 1);
            Check.due("acts of 0", x.fighter(0, 12), place == 7 ? 4 : 3);
            for (int what = 0; what <= 3; what++) {
                Check.due("readied(0, " + what + ")", x.readied(0, what), -1);
            }
            Check.due("initiative", x.fighter(0, 1), 30);
            Check.due("turn", x.count(2), 0);
        }
    }

    private static void readiedReachesTwoPlaces() {
        for (int kind = 0; kind <= 2; kind += 2) {
            for (int place = 0; place <= 9; place++) {
                TurnTracker x = Scene.of(new int[][] {{0, 40, 50, 5, 5}, {1, 30, 50, 5, 9}, {0, 20, 50, 5, place}});
                x.ready(kind, 2, 1, 1);
                x.step(9);
                Check.due("failed at " + place, x.count(8), place >= 3 && place <= 7 ? 0 : 1);
            }
        }
    }

    /** The cause has not moved yet when it is struck; and the readier strikes from where it stands then. */
    private static void readiedAtTheCauseBeforeItSteps() {
        TurnTracker x = Scene.of(new int[][] {{0, 40, 50, 5, 5}, {1, 30, 50, 5, 8}});
        x.ready(0, 1, 1, 1);
        Check.due("step to 6", x.step(6), 2);
        Check.due("3 away before it: failed", x.count(8), 1);
        TurnTracker y = Scene.of(new int[][] {{0, 40, 50, 5, 5}, {1, 30, 50, 5, 6}});
        y.ready(0, 1, 1, 1);
        Check.due("step to 9", y.step(9), 3);
        Check.due("struck before it", y.fighter(1, 2), 45);
    }

    private static void theCauseWithJustEnoughLife() {
        for (int life = 4; life <= 6; life++) {
            TurnTracker x = Scene.of(new int[][] {{0, 40, 50, 5, 5}, {1, 30, life, 5, 5}});
            x.ready(0, 1, 1, 0);
            boolean falls = life <= 5;
            Check.due("would be done", x.ifDone(0, 0, 2), falls ? 0 : 1);
            Check.due("strike with a life of " + life, x.strike(0), falls ? -1 : 5);
            Check.due("life of 0", x.fighter(0, 2), falls ? 50 : 45);
            Check.due("life of 1", x.fighter(1, 2), falls ? 0 : 1);
            Check.due("failed", x.count(8), falls ? 1 : 0);
            Check.due("acts of 1", x.fighter(1, 12), falls ? 3 : 4);
            Check.due("taken by 0", x.fighter(0, 13), Math.min(5, life));
            Check.due("turn", x.count(2), 0);
        }
    }

    private static void theCauseIsNotPossibleAnyMore() {
        for (int life = 5; life <= 6; life++) {
            int[][] fighters = {{0, 40, 50, 5, 5}, {1, 30, 50, 5, 5}, {1, 20, life, 5, 5}};
            int done = life == 5 ? 0 : 1;
            TurnTracker help = Scene.of(fighters);
            help.ready(0, 2, 1, 2);
            Check.due("would be done", help.ifDone(2, 2, 2), done);
            Check.due("help", help.help(2), life == 5 ? -1 : 5);
            Check.due("failed", help.count(8), 1 - done);
            TurnTracker strike = Scene.of(fighters);
            strike.ready(0, 2, 1, 0);
            Check.due("would be done", strike.ifDone(0, 2, 2), done);
            Check.due("strike", strike.strike(2), life == 5 ? -1 : 1);
            Check.due("taken", strike.fighter(1, 13), done);
        }
        TurnTracker curse = Scene.of(new int[][] {{0, 40, 50, 5, 5}, {1, 30, 50, 5, 5}, {0, 20, 5, 5, 5}});
        curse.ready(0, 2, -1, 3);
        Check.due("curse on one who fell", curse.curse(2, 1, 5), -1);
        Check.due("no condition", curse.fighter(2, 9), 0);
        Check.due("the turn ends", curse.count(2), 0);
    }

    private static void aReadierFallsMeanwhile() {
        for (int life = 5; life <= 6; life++) {
            TurnTracker x = Scene.of(new int[][] {{0, 40, 50, 5, 5}, {0, 30, life, 5, 5}, {1, 20, 50, 5, 5}});
            x.ready(0, 1, 2, 1);
            x.ready(0, 2, 2, 1);
            Check.due("set off", x.ifDone(1, 5, 1), 2);
            Check.due("step", x.step(5), 0);
            Check.due("life of 2", x.fighter(2, 2), life == 5 ? 50 : 45);
            Check.due("failed", x.count(8), life == 5 ? 1 : 0);
            Check.due("used up", x.readied(1, 0), -1);
            Check.dueRow("both stand ahead", x, 0, 1, 2);
            Check.due("initiative of 1", x.fighter(1, 1), 20);
        }
    }

    /** 0 and 1 have readied a strike at 3 for the act of 2: when 0 has struck, 3 stands no more, or just so. */
    private static void theGoalFallsMeanwhile() {
        for (int life = 5; life <= 6; life++) {
            TurnTracker x = Scene.of(new int[][] {{0, 40, 50, 5, 5}, {0, 30, 50, 5, 5}, {1, 20, 50, 5, 5}, {1, 10, life, 5, 5}});
            int acts = x.count(7);
            x.ready(0, 3, 2, 1);
            x.ready(0, 3, 2, 1);
            Check.due("set off", x.ifDone(1, 5, 1), 2);
            Check.due("step", x.step(5), 0);
            Check.due("acts", x.count(7), acts + (life == 5 ? 2 : 3));
            Check.due("failed", x.count(8), life == 5 ? 1 : 0);
            Check.due("acts of 1", x.fighter(1, 12), life == 5 ? 3 : 4);
            Check.due("taken by 1", x.fighter(1, 13), life - 5);
            Check.due("used up", x.readied(1, 0), -1);
            Check.due("initiative of 1", x.fighter(1, 1), 20);
        }
    }

    private static void aStunOfOneRound() {
        for (int condition = 0; condition <= 3; condition++) {
            TurnTracker x = Scene.of(new int[][] {{0, 40, 50, 5, 5}, {1, 30, 50, 5, 5}, {1, 20, 50, 5, 5}});
            x.ready(0, 2, 2, 1);
            x.curse(0, condition, 1);
            x.step(5);
            int[] life = {50, 48, 42, 45};
            Check.due("life with the condition " + condition, x.fighter(2, 2), life[condition]);
            Check.due("failed", x.count(8), condition == 0 ? 1 : 0);
            Check.due("used up", x.readied(0, 0), -1);
        }
    }

    private static void theFallenAreNotSetOff() {
        for (int life = 5; life <= 6; life++) {
            TurnTracker x = Scene.of(new int[][] {{0, 40, life, 5, 5}, {1, 30, 50, 5, 5}, {1, 20, 50, 5, 5}});
            x.ready(0, 2, 2, 1);
            x.strike(0);
            Check.due("readied acts", x.count(6), life - 5);
            Check.due("told still", x.readied(0, 1), 2);
            Check.due("set off", x.ifDone(1, 5, 1), life - 5);
            x.step(5);
            Check.due("life of 2", x.fighter(2, 2), life == 5 ? 50 : 45);
            Check.due("failed", x.count(8), 0);
            Check.due("initiative", x.fighter(0, 1), life == 5 ? 40 : 20);
            Check.due("told still", x.readied(0, 1), life == 5 ? 2 : -1);
        }
    }

    /** 2 has 9 life, and the strikes of 0 and 1 take 5 each: who is ahead in the row takes more. */
    private static void theOrderOfTheRowAtTheBeginning() {
        TurnTracker x = Scene.of(new int[][] {{0, 30, 50, 5, 5}, {0, 40, 50, 5, 5}, {1, 20, 9, 5, 5}});
        x.ready(0, 2, 2, 1);
        x.ready(0, 2, 2, 1);
        Check.due("step fails", x.step(5), -1);
        Check.due("1 was first", x.fighter(1, 13), 5);
        Check.due("then 0", x.fighter(0, 13), 4);
        Check.dueRow("the row", x, 1, 0, 2);
    }

    private static void movesFromAheadAndFromBehind() {
        // 0 stands ahead of the cause, 3 and 5 behind it.
        TurnTracker x = Scene.line(6);
        x.end();
        x.end();
        x.end();
        x.ready(0, 2, 2, 1);
        x.end();
        x.ready(0, 2, 2, 1);
        x.ready(0, 2, 2, 1);
        x.end();
        Check.due("set off", x.ifDone(1, 5, 1), 3);
        x.step(5);
        Check.dueRow("all stand just ahead of 2", x, 1, 0, 3, 5, 2, 4);
        Check.due("turn: just behind the cause", x.count(2), 4);
        for (int f : new int[] {0, 3, 5}) {
            Check.due("initiative of " + f, x.fighter(f, 1), 38);
        }
        Check.due("initiative of 4", x.fighter(4, 1), 36);
        Check.due("struck three times", x.fighter(2, 2), 35);
        int round = x.count(1);
        Check.due("end: 5 has no turn any more in this round", x.end(), 1);
        Check.due("round", x.count(1), round + 1);
    }

    private static void readiedActsAreNoCauses() {
        TurnTracker x = Scene.line(4);
        x.ready(0, 1, 3, 1);
        x.ready(0, 0, 0, 0);
        x.ready(2, 0, -1, 0);
        Check.due("the step sets off one", x.ifDone(1, 5, 1), 1);
        x.step(5);
        Check.due("struck", x.fighter(1, 2), 45);
        Check.due("not struck", x.fighter(0, 2), 50);
        Check.due("1 did no strike", x.fighter(1, 12), 3);
        Check.due("the help of 2 waits still", x.readied(2, 3), 0);
        Check.due("failed", x.count(8), 0);
    }

    private static void aFallenGoalAndAFallenCause() {
        TurnTracker x = Scene.of(new int[][] {{0, 40, 50, 5, 5}, {1, 30, 50, 9, 5}, {1, 20, 5, 5, 5}});
        x.ready(0, 2, 1, 0);
        Check.due("strike at 2 fails: 0 was ahead", x.strike(2), -1);
        x.ready(0, 2, 1, 1);
        x.step(5);
        Check.due("a strike at a fallen one fails", x.count(8), 2);
        x.ready(0, 1, 2, 1);
        x.step(5);
        Check.due("a fallen cause never comes", x.readied(0, 0), -1);
        Check.due("life", x.fighter(1, 2), 50);
    }

    private static void lostAsTheTurnBegins() {
        TurnTracker x = Scene.line(2);
        x.ready(0, 1, 1, 1);
        Check.due("readied", x.count(6), 1);
        Check.due("end", x.end(), 0);
        Check.due("readied", x.count(6), 0);
        Check.due("status", x.fighter(0, 7), 0);
        Check.due("neither done nor failed", x.count(8), 0);
        x.end();
        Check.due("set off", x.ifDone(1, 5, 1), 0);
        // Lost also if the turn ends at once, by a stun or by falling.
        for (int condition = 0; condition <= 3; condition += 3) {
            TurnTracker y = Scene.of(new int[][] {{0, 40, 2, 5, 5}, {1, 30, 50, 5, 5}});
            y.ready(0, 1, 1, 1);
            y.curse(0, condition, 1);
            Check.due("turn", y.count(2), 1);
            for (int what = 0; what <= 3; what++) {
                Check.due("readied(0, " + what + ")", y.readied(0, what), -1);
            }
        }
    }
}
