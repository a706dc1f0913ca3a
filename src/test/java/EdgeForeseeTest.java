/** The boundary cases of the promises 21 to 25: ifDone, ifEnded, bestStrike, standing, digest. */
public final class EdgeForeseeTest {
    public static void main(String[] args) {
        ifDoneRefused();
        ifDoneOfAPlaceBeyondTheFighters();
        ifDoneWithoutTheTurn();
        ifDoneOfWhatIsNotPossible();
        ifDoneSetsOffAsManyAsThereAre();
        ifDoneCountsThoseThatFail();
        ifDoneOfTheCauseThatFails();
        ifDoneTellsTheTurnBehindIt();
        ifDoneOfACurseIsAStunOfOneRound();
        ifDoneOfACurseIsNoStunOfTwoRounds();
        ifDoneWhenAllFallByIt();
        ifEndedAtBothEnds();
        ifEndedWithoutTheTurn();
        ifEndedUpToTheLastFall();
        ifEndedPassesTurnsThatEndAtOnce();
        bestStrikeWithoutTheTurn();
        bestStrikeReachesTwoPlaces();
        bestStrikeOfSeveralTheLowestGoal();
        bestStrikeTakesAtMostAll();
        bestStrikeAtTheOtherSideAlone();
        bestStrikeWithoutLoss();
        bestStrikeBehindAllThatItSetsOff();
        bestStrikeThatWouldNotBeDone();
        standingAtBothEnds();
        digestOfNothingAndOfAll();
        digestAtEachPlace();
        digestOfEachLengthOfTheBuffer();
        nothingIsChanged();
        Check.finish();
    }

    private static void dueIfDone(String what, TurnTracker x, int kind, int goal, int... due) {
        for (int i = 0; i <= 3; i++) {
            Check.due(what + ": ifDone(" + kind + ", " + goal + ", " + i + ")", x.ifDone(kind, goal, i), due[i]);
        }
    }

    private static void ifDoneRefused() {
        for (int n = 1; n <= 10; n += 3) {
            TurnTracker x = Scene.line(n);
            int number = n;
            for (int kind : new int[] {-1, 4, Integer.MIN_VALUE, Integer.MAX_VALUE}) {
                Check.dueThrow(x, "kind " + kind, Check.ARGUMENT, () -> x.ifDone(kind, 0, 0));
            }
            for (int kind = 0; kind <= 3; kind++) {
                int k = kind;
                for (int what : new int[] {-1, 4, Integer.MIN_VALUE, Integer.MAX_VALUE}) {
                    Check.dueThrow(x, "what " + what, Check.ARGUMENT, () -> x.ifDone(k, 0, what));
                }
                for (int goal : new int[] {-1, kind == 1 ? 10 : n, Integer.MIN_VALUE, Integer.MAX_VALUE}) {
                    for (int what = 0; what <= 3; what++) {
                        int w = what;
                        Check.dueThrow(x, "goal " + goal, Check.ARGUMENT, () -> x.ifDone(k, goal, w));
                    }
                }
            }
            for (int kind = 0; kind <= 3; kind += kind == 0 ? 2 : 1) {
                Check.due("the last fighter", x.ifDone(kind, number - 1, 0),
                    number > 1 && (kind == 0 || (number % 2 == 0) == (kind == 3)) ? 1 : 0);
            }
            Check.due("the first place", x.ifDone(1, 0, 0), 0);
            Check.due("the last place", x.ifDone(1, 9, 0), 0);
        }
    }

    private static void ifDoneOfAPlaceBeyondTheFighters() {
        TurnTracker x = Scene.of(new int[][] {{0, 20, 9, 1, 7}});
        for (int place = 0; place <= 9; place++) {
            Check.due("a step to " + place, x.ifDone(1, place, 0), place >= 4 ? 1 : 0);
            Check.due("would be done", x.ifDone(1, place, 2), place >= 4 ? 1 : -1);
            Check.due("turn then", x.ifDone(1, place, 3), place >= 4 ? 0 : -1);
        }
    }

    private static void ifDoneWithoutTheTurn() {
        TurnTracker ahead = new TurnTracker();
        ahead.come(0, 20, 9, 1);
        ahead.come(1, 20, 9, 1);
        TurnTracker fallen = EdgeFightersTest.dying();
        fallen.end();
        for (TurnTracker x : new TurnTracker[] {ahead, fallen}) {
            for (int kind = 0; kind <= 3; kind++) {
                dueIfDone("nobody has the turn", x, kind, 0, 0, -1, -1, -1);
                dueIfDone("nobody has the turn", x, kind, 1, 0, -1, -1, -1);
                int k = kind;
                Check.dueThrow(x, "goal", Check.ARGUMENT, () -> x.ifDone(k, k == 1 ? 10 : 2, 0));
            }
        }
    }

    private static void ifDoneOfWhatIsNotPossible() {
        TurnTracker x = Scene.of(new int[][] {{0, 40, 50, 5, 5}, {1, 30, 50, 5, 8}, {0, 20, 50, 5, 5}, {1, 10, 5, 5, 5}});
        dueIfDone("self", x, 0, 0, 0, -1, -1, -1);
        dueIfDone("3 away", x, 0, 1, 0, -1, -1, -1);
        dueIfDone("4 away", x, 1, 9, 0, -1, -1, -1);
        dueIfDone("3 away", x, 1, 8, 1, 0, 1, 1);
        dueIfDone("help for self", x, 2, 0, 0, -1, -1, -1);
        dueIfDone("help for a foe", x, 2, 3, 0, -1, -1, -1);
        dueIfDone("a curse on the own side", x, 3, 2, 0, -1, -1, -1);
        dueIfDone("a curse on self", x, 3, 0, 0, -1, -1, -1);
        dueIfDone("a strike", x, 0, 3, 1, 0, 1, 1);
        x.strike(3);
        Scene.turnTo(x, 0);
        dueIfDone("a fallen one", x, 0, 3, 0, -1, -1, -1);
        dueIfDone("a curse on a fallen one", x, 3, 3, 0, -1, -1, -1);
        TurnTracker y = Scene.of(new int[][] {{0, 40, 50, 5, 5}, {1, 30, 50, 5, 5}});
        y.end();
        y.curse(0, 1, 1);
        dueIfDone("slowed, 1 away", y, 1, 4, 1, 0, 1, 1);
        dueIfDone("slowed, 2 away", y, 1, 3, 0, -1, -1, -1);
    }

    private static void ifDoneSetsOffAsManyAsThereAre() {
        for (int readied = 0; readied <= 9; readied++) {
            TurnTracker x = Scene.line(10);
            for (int i = 0; i < 9; i++) {
                if (i < readied) {
                    x.ready(0, 9, 9, 1);
                } else {
                    x.end();
                }
            }
            // Those who readied come to stand behind those who did not, so the next round begins with one of these.
            dueIfDone(readied + " readied", x, 1, 5, 1, readied, 1, readied % 9);
            dueIfDone("another kind", x, 0, 0, 1, 0, 1, 0);
        }
    }

    private static void ifDoneCountsThoseThatFail() {
        TurnTracker x = Scene.of(new int[][] {{0, 40, 50, 5, 0}, {0, 30, 50, 5, 5}, {1, 20, 50, 5, 5}, {1, 10, 50, 5, 5}});
        x.ready(0, 3, -1, 1);
        x.ready(0, 3, 3, 1);
        x.curse(1, 0, 2);
        dueIfDone("one is far away, one stunned", x, 1, 5, 1, 2, 1, 2);
        x.step(5);
        Check.due("both failed", x.count(8), 2);
        Check.due("turn, as the two stand ahead", x.count(2), 2);
    }

    private static void ifDoneOfTheCauseThatFails() {
        for (int life = 5; life <= 6; life++) {
            TurnTracker x = Scene.of(new int[][] {{0, 40, 50, 5, 5}, {1, 30, life, 5, 5}, {1, 20, 50, 5, 5}});
            x.ready(0, 1, 1, 1);
            dueIfDone("a life of " + life, x, 1, 6, 1, 1, life - 5, 2);
            Check.due("step", x.step(6), life == 5 ? -1 : 1);
        }
    }

    private static void ifDoneTellsTheTurnBehindIt() {
        TurnTracker x = Scene.of(new int[][] {{0, 40, 50, 5, 5}, {1, 30, 5, 5, 5}, {0, 20, 50, 5, 5}});
        dueIfDone("1 falls by it", x, 0, 1, 1, 0, 1, 2);
        dueIfDone("1 does not", x, 0, 2, 1, 0, 1, 1);
        x.delay();
        dueIfDone("0 delays", x, 1, 5, 1, 0, 1, 2);
        x.end();
        dueIfDone("the next round", x, 1, 5, 1, 0, 1, 0);
        x.comeIn(0);
        dueIfDone("0 comes in", x, 1, 5, 1, 0, 1, 0);
        x.end();
        dueIfDone("the next round", x, 1, 5, 1, 0, 1, 1);
    }

    private static void ifDoneOfACurseIsAStunOfOneRound() {
        TurnTracker x = Scene.line(2);
        dueIfDone("a curse", x, 3, 1, 1, 0, 1, 0);
        TurnTracker y = Scene.line(2);
        y.curse(1, 0, 1);
        Check.due("as a stun of one round", y.count(2), 0);
        Check.due("the stun is over", y.fighter(1, 8), 0);
        TurnTracker z = Scene.of(new int[][] {{0, 40, 50, 5, 5}, {1, 30, 50, 5, 5}, {1, 20, 50, 5, 5}});
        dueIfDone("1 loses its turn", z, 3, 1, 1, 0, 1, 2);
        dueIfDone("2 would lose its turn", z, 3, 2, 1, 0, 1, 1);
        Check.due("nothing has happened", z.fighter(1, 8) + z.fighter(2, 8), 0);
    }

    /** 2 is stunned, and 0 falls as its next turn begins: then 1, if just one turn was lost, otherwise 2. */
    private static void ifDoneOfACurseIsNoStunOfTwoRounds() {
        TurnTracker x = Scene.of(new int[][] {{0, 40, 4, 5, 5}, {1, 30, 50, 5, 5}, {1, 20, 50, 5, 5}});
        x.curse(2, 0, 2);
        x.curse(0, 3, 5);
        Check.due("turn", x.count(2), 0);
        dueIfDone("a stun of one round", x, 3, 1, 1, 0, 1, 1);
        Check.due("digest", x.digest(), ForeseeTest.digestByLooks(x, ""));
        x.curse(1, 0, 2);
        Check.due("a stun of two rounds", x.count(2), 2);
    }

    private static void ifDoneWhenAllFallByIt() {
        TurnTracker x = EdgeFightersTest.dying();
        dueIfDone("all fall behind it", x, 1, 0, 1, 0, 1, -1);
        dueIfDone("all fall behind it", x, 3, 1, 1, 0, 1, -1);
        Check.due("turn", x.count(2), 0);
        Check.due("life", x.fighter(0, 2), 1);
    }

    private static void ifEndedAtBothEnds() {
        for (int n = 1; n <= 10; n++) {
            TurnTracker x = Scene.line(n);
            for (int turns = 0; turns <= 40; turns++) {
                Check.due("ifEnded(" + turns + ")", x.ifEnded(turns), turns % n);
            }
            for (int turns : new int[] {-1, 41, Integer.MIN_VALUE, Integer.MAX_VALUE}) {
                Check.dueThrow(x, "ifEnded(" + turns + ")", Check.ARGUMENT, () -> x.ifEnded(turns));
            }
        }
    }

    private static void ifEndedWithoutTheTurn() {
        TurnTracker empty = new TurnTracker();
        TurnTracker ahead = new TurnTracker();
        ahead.come(0, 20, 9, 1);
        TurnTracker fallen = EdgeFightersTest.dying();
        fallen.end();
        for (TurnTracker x : new TurnTracker[] {empty, ahead, fallen}) {
            Check.due("ifEnded(0)", x.ifEnded(0), -1);
            Check.due("ifEnded(1)", x.ifEnded(1), -1);
            Check.due("ifEnded(40)", x.ifEnded(40), -1);
            Check.dueThrow(x, "ifEnded(-1)", Check.ARGUMENT, () -> x.ifEnded(-1));
            Check.dueThrow(x, "ifEnded(41)", Check.ARGUMENT, () -> x.ifEnded(41));
        }
    }

    private static void ifEndedUpToTheLastFall() {
        TurnTracker x = EdgeFightersTest.dying();
        Check.due("now", x.ifEnded(0), 0);
        for (int turns = 1; turns <= 40; turns++) {
            Check.due("behind the fall of all", x.ifEnded(turns), -1);
        }
        TurnTracker y = EdgeFightersTest.dying();
        y.come(0, 15, 5, 1);
        y.end();
        y.curse(1, 0, 1);
        Check.due("2 alone", y.count(3) + y.count(4), 1);
        Check.due("ifEnded(40)", y.ifEnded(40), 2);
    }

    private static void ifEndedPassesTurnsThatEndAtOnce() {
        TurnTracker x = Scene.line(3);
        x.curse(1, 0, 4);
        Check.due("turn", x.count(2), 2);
        int[] due = {2, 0, 2, 0, 2, 0, 2, 0, 1, 2, 0, 1, 2};
        for (int turns = 0; turns < due.length; turns++) {
            Check.due("ifEnded(" + turns + ")", x.ifEnded(turns), due[turns]);
        }
        TurnTracker y = Scene.line(3);
        y.delay();
        // Who delays has no turn in this round, but in the next one.
        int[] then = {1, 2, 0, 1, 2, 0};
        for (int turns = 0; turns < then.length; turns++) {
            Check.due("ifEnded(" + turns + ")", y.ifEnded(turns), then[turns]);
        }
    }

    private static void bestStrikeWithoutTheTurn() {
        TurnTracker ahead = new TurnTracker();
        Check.due("no fighters", ahead.bestStrike(), -1);
        ahead.begin();
        Check.due("no fighters", ahead.bestStrike(), -1);
        TurnTracker fallen = EdgeFightersTest.dying();
        fallen.end();
        Check.due("all have fallen", fallen.bestStrike(), -1);
        Check.due("one alone", Scene.line(1).bestStrike(), -1);
        Check.due("two", Scene.line(2).bestStrike(), 1);
        Check.due("ten", Scene.line(10).bestStrike(), 1);
    }

    private static void bestStrikeReachesTwoPlaces() {
        for (int place = 0; place <= 9; place++) {
            TurnTracker x = Scene.of(new int[][] {{0, 20, 50, 5, 5}, {1, 10, 50, 5, place}});
            Check.due("bestStrike at " + place, x.bestStrike(), place >= 3 && place <= 7 ? 1 : -1);
        }
    }

    private static void bestStrikeOfSeveralTheLowestGoal() {
        TurnTracker x = Scene.of(new int[][] {{1, 10, 5, 5, 5}, {1, 20, 5, 5, 5}, {0, 40, 50, 5, 5}, {1, 30, 99, 5, 5}});
        Check.due("all lose 5", x.bestStrike(), 0);
        TurnTracker y = Scene.of(new int[][] {{1, 10, 4, 5, 5}, {1, 20, 5, 5, 5}, {0, 40, 50, 5, 5}, {1, 30, 99, 5, 5}});
        Check.due("0 loses 4", y.bestStrike(), 1);
        TurnTracker z = Scene.of(new int[][] {{1, 10, 4, 5, 5}, {1, 20, 4, 5, 5}, {0, 40, 50, 5, 5}, {1, 30, 99, 5, 5}});
        Check.due("just 3 loses 5", z.bestStrike(), 3);
        z.strike(3);
        Scene.turnTo(z, 3);
        Check.due("the other way", z.bestStrike(), 2);
    }

    private static void bestStrikeTakesAtMostAll() {
        TurnTracker x = Scene.of(new int[][] {{0, 40, 50, 20, 5}, {1, 30, 19, 5, 5}, {1, 20, 20, 5, 5}, {1, 10, 21, 5, 5}});
        Check.due("20 of 19, 20, 21", x.bestStrike(), 2);
        x.strike(2);
        Scene.turnTo(x, 0);
        Check.due("2 has fallen", x.bestStrike(), 3);
        x.strike(3);
        Scene.turnTo(x, 0);
        Check.due("19 and 1", x.bestStrike(), 1);
        x.strike(1);
        Scene.turnTo(x, 0);
        Check.due("just 1", x.bestStrike(), 3);
        x.strike(3);
        Check.due("none", x.bestStrike(), -1);
    }

    private static void bestStrikeAtTheOtherSideAlone() {
        TurnTracker x = Scene.of(new int[][] {{0, 40, 50, 20, 5}, {0, 30, 50, 5, 5}, {1, 20, 1, 5, 5}});
        Check.due("1 would lose more", x.bestStrike(), 2);
        x.strike(2);
        Scene.turnTo(x, 0);
        Check.due("just the own side", x.bestStrike(), -1);
        Check.due("possible, though", x.ifDone(0, 1, 0), 1);
    }

    private static void bestStrikeWithoutLoss() {
        TurnTracker x = Scene.of(new int[][] {{0, 40, 50, 1, 5}, {1, 30, 50, 5, 5}, {1, 20, 50, 5, 5}});
        x.end();
        x.curse(0, 1, 1);
        x.end();
        Check.due("a strike of 0, the lowest goal", x.bestStrike(), 1);
        Check.due("strike", x.strike(1), 0);
    }

    private static void bestStrikeBehindAllThatItSetsOff() {
        // 3 strikes 1 ahead of the strike of 0: 1 keeps 4 of 9 then, 2 has 5.
        TurnTracker x = Scene.of(new int[][] {{0, 10, 50, 9, 5}, {1, 40, 9, 5, 5}, {1, 30, 5, 5, 5}, {0, 20, 50, 5, 5}});
        x.end();
        x.end();
        Check.due("ready", x.ready(0, 1, 0, 0), 0);
        Check.due("1 has 4 then", x.bestStrike(), 2);
        Check.due("the strike at 1", x.strike(1), 4);
        // 2 helps 1 ahead of the strike: 1 has 5 then, 3 has 4.
        TurnTracker y = Scene.of(new int[][] {{0, 40, 50, 9, 5}, {1, 30, 10, 5, 6}, {1, 20, 50, 5, 8}, {1, 10, 4, 5, 5}});
        y.strike(1);
        y.end();
        y.ready(2, 1, -1, 0);
        y.end();
        Check.due("1 has 1 now", y.fighter(1, 2), 1);
        Check.due("1 has 5 then", y.bestStrike(), 1);
        Check.due("strike", y.strike(1), 5);
    }

    private static void bestStrikeThatWouldNotBeDone() {
        for (int life = 5; life <= 6; life++) {
            int[][] fighters = {{0, 20, 50, 9, 5}, {1, 10, life, 5, 5}, {0, 30, 50, 5, 5}};
            TurnTracker x = Scene.of(fighters);
            x.ready(0, 1, -1, 0);
            x.end();
            Check.due("1 falls ahead of its strike, or not", x.bestStrike(), life == 5 ? -1 : 0);
            TurnTracker y = Scene.of(fighters);
            y.ready(0, 1, 0, 0);
            Check.due("1 falls ahead of the strike at it, or not", y.bestStrike(), life == 5 ? -1 : 1);
            Check.due("possible now", y.ifDone(0, 1, 0), 1);
            Check.due("would be done", y.ifDone(0, 1, 2), life - 5);
        }
    }

    private static void standingAtBothEnds() {
        TurnTracker x = new TurnTracker();
        Check.dueShare("none", x.standing(), 0.5);
        x.come(1, 20, 1, 1);
        Check.dueShare("just the side 1", x.standing(), 0.0);
        x.come(0, 20, 1, 1);
        Check.dueShare("the same", x.standing(), 0.5);
        x.undo();
        x.undo();
        x.come(0, 20, 99, 1);
        Check.dueShare("just the side 0", x.standing(), 1.0);
        x.come(1, 20, 1, 1);
        Check.dueShare("99 of 100", x.standing(), 99.0 / 100.0);
        TurnTracker fallen = EdgeFightersTest.dying();
        Check.dueShare("1 and 1", fallen.standing(), 0.5);
        fallen.end();
        Check.dueShare("both have none", fallen.standing(), 0.5);
        fallen.come(1, 20, 7, 1);
        Check.dueShare("just the side 1", fallen.standing(), 0.0);
        TurnTracker few = new TurnTracker();
        few.come(0, 20, 1, 1);
        for (int i = 0; i < 9; i++) {
            few.come(1, 20, 99, 1);
        }
        Check.dueShare("1 of 892", few.standing(), 1.0 / 892.0);
        Check.due("its bits", few.digest(), ForeseeTest.digestByLooks(few, ""));
    }

    private static void digestOfNothingAndOfAll() {
        TurnTracker x = new TurnTracker();
        long hash = 2767;
        int[] counts = {0, 0, -1, 0, 0, 0, 0, 0, 0, 0, 0, 0, 0};
        for (int count : counts) {
            hash = 31 * hash + count;
        }
        // The row, the step to 5, and the ends of turns: nothing of all that is there.
        for (int i = 0; i < 10; i++) {
            hash = 31 * hash - 1;
        }
        hash = 31 * hash;
        for (int i = 0; i < 3 + 13 + 1; i++) {
            hash = 31 * hash - 1;
        }
        hash = 31 * hash + 0x3fe0000000000000L;
        hash = 31 * hash;
        Check.due("digest of a new one", x.digest(), hash);
        for (int n = 1; n <= 9; n++) {
            TurnTracker y = Scene.line(n);
            Check.due("digest of " + n, y.digest(), ForeseeTest.digestByLooks(y, ""));
            y.delay();
            y.come(0, 0, 9, 1);
            y.ready(2, n, -1, 3);
            Check.due("digest of more", y.digest(), ForeseeTest.digestByLooks(y, ""));
        }
    }

    /** The step that is taken into the digest goes to 5: from 2 and 8 it is possible, from 1 and 9 it is not. */
    private static void digestAtEachPlace() {
        for (int place = 0; place <= 9; place++) {
            TurnTracker x = Scene.of(new int[][] {{0, 40, 50, 5, place}, {1, 30, 50, 5, 5}});
            Check.due("digest at " + place, x.digest(), ForeseeTest.digestByLooks(x, ""));
        }
    }

    private static void digestOfEachLengthOfTheBuffer() {
        TurnTracker x = Scene.line(2);
        StringBuilder text = new StringBuilder();
        for (int length = 1; length <= 60; length++) {
            char code = (char) (length % 2 == 0 ? 33 + length : 127 - length);
            text.append(code);
            x.append(code);
            Check.due("digest of " + length + " characters", x.digest(), ForeseeTest.digestByLooks(x, text.toString()));
        }
    }

    private static void nothingIsChanged() {
        TurnTracker x = Scene.line(5);
        x.delay();
        x.ready(0, 2, -1, 0);
        x.ready(2, 3, 3, 1);
        Check.type(x, "e;s");
        long digest = x.digest();
        String looks = Scene.looks(x);
        for (int kind = 0; kind <= 3; kind++) {
            for (int goal = 0; goal <= 4; goal++) {
                for (int what = 0; what <= 3; what++) {
                    x.ifDone(kind, goal, what);
                }
            }
        }
        Check.dueText("behind ifDone", Scene.looks(x), looks);
        x.ifEnded(40);
        Check.dueText("behind ifEnded", Scene.looks(x), looks);
        x.bestStrike();
        x.standing();
        Check.dueText("behind bestStrike and standing", Scene.looks(x), looks);
        Check.due("digest", x.digest(), digest);
        Check.due("saved", x.count(12), 6);
        Check.due("undo", x.undo(), 5);
        Check.due("turn", x.count(2), 2);
    }
}
