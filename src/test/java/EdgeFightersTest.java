/** The boundary cases of 'Fighters' and of the promises 1 to 3: a new object, come, begin. */
public final class EdgeFightersTest {
    public static void main(String[] args) {
        nothingIsThereAtFirst();
        eachArgumentOfComeAtBothEnds();
        tenFightersAreAll();
        wrongArgumentsAreNamedAheadOfTheFullRow();
        refusedOnesTakeNoNumber();
        aheadOfTheFirstWithLesserInitiative();
        intoARowOfNineAtEachPlace();
        placeAndMostLifeAtFirst();
        comesBeforeTheBeginning();
        comesJustBehindTheTurn();
        comesLastInTheRound();
        comesWhenAllHaveFallen();
        beginWithoutFighters();
        beginWithOne();
        beginWithTen();
        beginPutsTheSameInitiativesByNumber();
        beginWhenAllHaveFallen();
        beginPassesOverTheFallen();
        theFirstOneFallsAsItBegins();
        theLastOneFallsAsItBegins();
        beginLeavesLifeConditionsPlacesAndCounts();
        beginInTheMidstOfATurn();
        beginEndsDelaysAndReadiedActs();
        Check.finish();
    }

    private static void nothingIsThereAtFirst() {
        TurnTracker x = new TurnTracker();
        for (int what = 0; what <= 12; what++) {
            Check.due("new: count(" + what + ")", x.count(what), what == 2 ? -1 : 0);
        }
        for (int place : new int[] {0, 1, 9, 10, Integer.MAX_VALUE}) {
            Check.due("new: inRow(" + place + ")", x.inRow(place), -1);
        }
        for (int fighter : new int[] {-1, 0, 9}) {
            Check.dueThrow(x, "new: fighter", Check.BOUNDS, () -> x.fighter(fighter, 0));
            Check.dueThrow(x, "new: readied", Check.BOUNDS, () -> x.readied(fighter, 0));
        }
        for (int kind : new int[] {0, 2, 3}) {
            Check.dueThrow(x, "new: ifDone", Check.ARGUMENT, () -> x.ifDone(kind, 0, 0));
        }
        for (int place : new int[] {0, 9}) {
            Check.due("new: ifDone of a step", x.ifDone(1, place, 0), 0);
            for (int what = 1; what <= 3; what++) {
                Check.due("new: ifDone of a step", x.ifDone(1, place, what), -1);
            }
        }
        Check.due("new: ifEnded(0)", x.ifEnded(0), -1);
        Check.due("new: ifEnded(40)", x.ifEnded(40), -1);
        Check.due("new: bestStrike", x.bestStrike(), -1);
        Check.dueShare("new: standing", x.standing(), 0.5);
        Check.due("new: firstError", x.firstError(), 0);
        Check.dueThrow(x, "new: run", Check.ARGUMENT, x::run);
        Check.dueThrow(x, "new: undo", Check.STATE, x::undo);
        Check.dueThrow(x, "new: end", Check.STATE, x::end);
        Check.dueThrow(x, "new: delay", Check.STATE, x::delay);
        Check.dueThrow(x, "new: step", Check.STATE, () -> x.step(0));
        Check.due("new: clearBuffer", x.clearBuffer(), 0);
    }

    private static final int[] LEAST = {0, 0, 1, 1};
    private static final int[] MOST = {1, 40, 99, 20};

    private static void eachArgumentOfComeAtBothEnds() {
        for (int argument = 0; argument < 4; argument++) {
            for (int end : new int[] {LEAST[argument], MOST[argument]}) {
                TurnTracker x = new TurnTracker();
                int[] a = {0, 20, 50, 10};
                a[argument] = end;
                Check.due("come with " + end + " as argument " + argument, x.come(a[0], a[1], a[2], a[3]), 0);
                Check.due("side", x.fighter(0, 0), a[0]);
                Check.due("initiative", x.fighter(0, 1), a[1]);
                Check.due("life", x.fighter(0, 2), a[2]);
                Check.due("force", x.fighter(0, 4), a[3]);
            }
            int[] out = {LEAST[argument] - 1, MOST[argument] + 1, Integer.MIN_VALUE, Integer.MAX_VALUE};
            for (int value : out) {
                TurnTracker x = new TurnTracker();
                int[] a = {1, 20, 50, 10};
                a[argument] = value;
                Check.dueThrow(x, "come with " + value + " as argument " + argument, Check.ARGUMENT,
                    () -> x.come(a[0], a[1], a[2], a[3]));
                Check.due("none came", x.count(0), 0);
                Check.due("nothing saved", x.count(12), 0);
            }
        }
    }

    private static void tenFightersAreAll() {
        TurnTracker x = new TurnTracker();
        for (int number = 0; number < 10; number++) {
            Check.due("come", x.come(number % 2, 40 - number, 50, 5), number);
            Check.due("fighters", x.count(0), number + 1);
        }
        String before = Scene.looks(x);
        Check.dueThrow(x, "the eleventh", Check.STATE, () -> x.come(0, 20, 50, 5));
        Check.dueThrow(x, "the eleventh, first in the row", Check.STATE, () -> x.come(0, 40, 99, 20));
        Check.dueText("nothing has changed", Scene.looks(x), before);
        Check.due("fighter(9, 6)", x.fighter(9, 6), 9);
        Check.dueThrow(x, "fighter(10, 6)", Check.BOUNDS, () -> x.fighter(10, 6));
        Check.due("undo", x.undo(), 5);
        Check.due("room for one again", x.come(1, 40, 7, 5), 9);
        Check.dueRow("behind the same initiative", x, 0, 9, 1, 2, 3, 4, 5, 6, 7, 8);
        x.begin();
        Check.dueThrow(x, "the eleventh in the skirmish", Check.STATE, () -> x.come(0, 20, 50, 5));
    }

    private static void wrongArgumentsAreNamedAheadOfTheFullRow() {
        TurnTracker x = new TurnTracker();
        for (int number = 0; number < 10; number++) {
            x.come(number % 2, 20, 50, 5);
        }
        for (int argument = 0; argument < 4; argument++) {
            for (int value : new int[] {LEAST[argument] - 1, MOST[argument] + 1}) {
                int[] a = {1, 20, 50, 10};
                a[argument] = value;
                Check.dueThrow(x, "come, wrong and full", Check.ARGUMENT, () -> x.come(a[0], a[1], a[2], a[3]));
            }
        }
    }

    private static void refusedOnesTakeNoNumber() {
        TurnTracker x = new TurnTracker();
        Check.due("come", x.come(0, 20, 50, 5), 0);
        Check.dueThrow(x, "come", Check.ARGUMENT, () -> x.come(0, 41, 50, 5));
        Check.due("come", x.come(0, 20, 50, 5), 1);
        Check.due("saved", x.count(12), 2);
    }

    private static void aheadOfTheFirstWithLesserInitiative() {
        TurnTracker x = new TurnTracker();
        x.come(0, 20, 5, 5);
        x.come(0, 20, 5, 5);
        Check.dueRow("the same: behind", x, 0, 1);
        x.come(1, 21, 5, 5);
        Check.dueRow("one more: ahead", x, 2, 0, 1);
        x.come(1, 19, 5, 5);
        Check.dueRow("one less: last", x, 2, 0, 1, 3);
        x.come(1, 20, 5, 5);
        Check.dueRow("ahead of the first lesser one", x, 2, 0, 1, 4, 3);
        x.come(0, 0, 5, 5);
        x.come(0, 40, 5, 5);
        x.come(0, 0, 5, 5);
        x.come(0, 40, 5, 5);
        Check.dueRow("least and most", x, 6, 8, 2, 0, 1, 4, 3, 5, 7);
    }

    private static void intoARowOfNineAtEachPlace() {
        for (int place = 0; place <= 9; place++) {
            TurnTracker x = new TurnTracker();
            for (int i = 0; i < 9; i++) {
                x.come(0, 36 - 4 * i, 5, 5);
            }
            Check.due("the tenth", x.come(1, 38 - 4 * place, 5, 5), 9);
            for (int at = 0; at < 10; at++) {
                Check.due("row", x.inRow(at), at < place ? at : at == place ? 9 : at - 1);
            }
            Check.due("inRow(10)", x.inRow(10), -1);
        }
    }

    private static void placeAndMostLifeAtFirst() {
        TurnTracker x = new TurnTracker();
        x.come(0, 20, 1, 1);
        x.come(1, 20, 99, 1);
        Check.due("the side 0 at 0", x.fighter(0, 5), 0);
        Check.due("the side 1 at 9", x.fighter(1, 5), 9);
        Check.due("most life", x.fighter(0, 3), 1);
        Check.due("most life", x.fighter(1, 3), 99);
        for (int what = 7; what <= 13; what++) {
            Check.due("nothing else yet: " + what, x.fighter(1, what), 0);
        }
    }

    private static void comesBeforeTheBeginning() {
        TurnTracker x = new TurnTracker();
        x.come(0, 20, 5, 5);
        Check.due("nobody has the turn", x.count(2), -1);
        Check.due("round", x.count(1), 0);
        Check.due("no turns", x.count(9), 0);
    }

    private static void comesJustBehindTheTurn() {
        TurnTracker x = Scene.line(2);
        Check.due("the initiative of the turn", x.come(1, 40, 9, 1), 2);
        Check.dueRow("behind it", x, 0, 2, 1);
        Check.due("the turn stays", x.count(2), 0);
        Check.due("end", x.end(), 2);
        Check.due("ahead of the turn, by initiative", x.come(1, 40, 9, 1), 3);
        Check.dueRow("behind the same", x, 0, 2, 3, 1);
        Check.due("end", x.end(), 3);
        TurnTracker y = Scene.line(2);
        y.end();
        Check.due("one more than the turn", y.come(0, 40, 9, 1), 2);
        Check.due("no turn in this round", y.end(), 0);
        Check.due("end", y.end(), 2);
    }

    private static void comesLastInTheRound() {
        TurnTracker x = Scene.line(2);
        x.end();
        int round = x.count(1);
        Check.due("last", x.come(0, 0, 9, 1), 2);
        Check.due("end", x.end(), 2);
        Check.due("the same round", x.count(1), round);
        Check.due("end", x.end(), 0);
        Check.due("the next round", x.count(1), round + 1);
    }

    /** Two who fall at the next end of the turn: 0 has the turn, both bleed with too little life. */
    static TurnTracker dying() {
        TurnTracker x = new TurnTracker();
        x.come(0, 20, 5, 1);
        x.come(1, 10, 3, 1);
        x.begin();
        x.end();
        x.curse(0, 3, 5);
        x.curse(1, 3, 5);
        x.end();
        Check.due("life of 0", x.fighter(0, 2), 1);
        Check.due("life of 1", x.fighter(1, 2), 1);
        Check.due("turn", x.count(2), 0);
        return x;
    }

    private static void comesWhenAllHaveFallen() {
        TurnTracker x = dying();
        Check.due("all fall", x.end(), -1);
        Check.due("come", x.come(0, 40, 9, 1), 2);
        Check.due("nobody has the turn", x.count(2), -1);
        Check.dueThrow(x, "end", Check.STATE, x::end);
        Check.dueThrow(x, "step", Check.STATE, () -> x.step(0));
        Check.due("begin", x.begin(), 2);
    }

    private static void beginWithoutFighters() {
        TurnTracker x = new TurnTracker();
        Check.due("begin", x.begin(), -1);
        Check.due("begin", x.begin(), -1);
        Check.due("saved, though the second one changes nothing", x.count(12), 2);
        Check.due("turns", x.count(9), 0);
        Check.dueThrow(x, "end", Check.STATE, x::end);
    }

    private static void beginWithOne() {
        TurnTracker x = new TurnTracker();
        x.come(1, 0, 1, 1);
        Check.due("begin", x.begin(), 0);
        Check.due("round", x.count(1), 1);
        Check.due("turns", x.count(9), 1);
        Check.due("end", x.end(), 0);
        Check.due("end", x.end(), 0);
        Check.due("round", x.count(1), 3);
        Check.due("begin anew", x.begin(), 0);
        Check.due("round", x.count(1), 1);
        Check.due("turns go on", x.count(9), 4);
    }

    private static void beginWithTen() {
        TurnTracker x = new TurnTracker();
        for (int i = 0; i < 10; i++) {
            x.come(i % 2, 4 * i, 9, 1);
        }
        Check.due("begin", x.begin(), 9);
        Check.dueRow("by initiative", x, 9, 8, 7, 6, 5, 4, 3, 2, 1, 0);
        for (int i = 8; i >= 0; i--) {
            Check.due("end", x.end(), i);
            Check.due("round", x.count(1), 1);
        }
        Check.due("end", x.end(), 9);
        Check.due("round", x.count(1), 2);
    }

    private static void beginPutsTheSameInitiativesByNumber() {
        TurnTracker x = Scene.line(4);
        x.delay();
        x.delay();
        x.comeIn(1);
        x.comeIn(0);
        Check.dueRow("came in", x, 2, 0, 1, 3);
        x.delay();
        x.delay();
        x.delay();
        Check.due("turn", x.count(2), 3);
        x.comeIn(2);
        x.comeIn(1);
        x.comeIn(0);
        Check.dueRow("all the same initiative now", x, 3, 0, 1, 2);
        for (int i = 0; i < 4; i++) {
            Check.due("initiative", x.fighter(i, 1), 37);
        }
        Check.due("begin", x.begin(), 0);
        Check.dueRow("by number", x, 0, 1, 2, 3);
    }

    private static void beginWhenAllHaveFallen() {
        TurnTracker x = dying();
        x.end();
        int turns = x.count(9);
        int saved = x.count(12);
        Check.due("a later round than the first", Math.min(x.count(1), 2), 2);
        Check.due("begin", x.begin(), -1);
        Check.due("the skirmish begins with the round 1", x.count(1), 1);
        Check.due("no turn began", x.count(9), turns);
        Check.due("turn", x.count(2), -1);
        Check.due("saved", x.count(12), Math.min(saved + 1, 6));
        Check.dueRow("the fallen stay in the row", x, 0, 1);
    }

    private static void beginPassesOverTheFallen() {
        TurnTracker x = Scene.of(new int[][] {{0, 30, 5, 5, 5}, {1, 20, 50, 5, 5}, {0, 10, 5, 5, 5}});
        x.end();
        x.strike(0);
        int turns = x.count(9);
        Check.due("begin: the first one has fallen", x.begin(), 1);
        Check.due("turns", x.count(9), turns + 1);
        x.strike(2);
        Check.due("begin: just the one in the middle", x.begin(), 1);
        Check.due("end", x.end(), 1);
        Check.due("round", x.count(1), 2);
    }

    private static void theFirstOneFallsAsItBegins() {
        TurnTracker x = dying();
        int turns = x.count(9);
        x.come(1, 0, 9, 1);
        Check.due("0 and 1 fall", x.begin(), 2);
        Check.due("turns", x.count(9), turns + 3);
        Check.due("round", x.count(1), 1);
        Check.due("one round less by falling", x.fighter(1, 11), 3);
    }

    private static void theLastOneFallsAsItBegins() {
        TurnTracker x = dying();
        int turns = x.count(9);
        Check.due("begin", x.begin(), -1);
        Check.due("round", x.count(1), 1);
        Check.due("turns", x.count(9), turns + 2);
        Check.due("life", x.count(10) + x.count(11), 0);
        Check.dueThrow(x, "end", Check.STATE, x::end);
    }

    private static void beginLeavesLifeConditionsPlacesAndCounts() {
        TurnTracker x = Scene.line(3);
        x.strike(1);
        x.curse(2, 1, 5);
        x.ready(0, 1, -1, 1);
        x.end();
        x.step(7);
        int[][] before = new int[3][14];
        for (int f = 0; f < 3; f++) {
            for (int what = 0; what <= 13; what++) {
                before[f][what] = x.fighter(f, what);
            }
        }
        int acts = x.count(7);
        int failed = x.count(8);
        int turns = x.count(9);
        Check.due("begin", x.begin(), 0);
        for (int f = 0; f < 3; f++) {
            for (int what = 0; what <= 13; what++) {
                if (what != 6 && what != 7) {
                    Check.due("fighter(" + f + ", " + what + ")", x.fighter(f, what), before[f][what]);
                }
            }
        }
        Check.due("acts", x.count(7), acts);
        Check.due("failed", x.count(8), failed);
        Check.due("turns", x.count(9), turns + 1);
    }

    /** The turn in whose midst the skirmish begins anew does not end: its fighter's conditions stay as they are. */
    private static void beginInTheMidstOfATurn() {
        for (int condition = 1; condition <= 3; condition++) {
            TurnTracker x = Scene.line(2);
            x.curse(1, condition, 4);
            Check.due("turn", x.count(2), 1);
            Check.due("begin", x.begin(), 0);
            Check.due("rounds of " + condition, x.fighter(1, 8 + condition), 4);
            x.end();
            x.end();
            Check.due("a turn passed", x.fighter(1, 8 + condition), 3);
        }
    }

    private static void beginEndsDelaysAndReadiedActs() {
        TurnTracker x = Scene.line(4);
        x.delay();
        x.ready(0, 0, -1, 0);
        x.delay();
        Check.due("delaying", x.count(5), 2);
        Check.due("readied", x.count(6), 1);
        Check.due("begin", x.begin(), 0);
        Check.due("delaying", x.count(5), 0);
        Check.due("readied", x.count(6), 0);
        for (int what = 0; what <= 3; what++) {
            Check.due("readied(1, " + what + ")", x.readied(1, what), -1);
        }
        Check.due("all have a turn again", x.end(), 1);
        Check.due("end", x.end(), 2);
    }
}
