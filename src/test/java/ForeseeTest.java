/** Promises 21 to 25: ifDone, ifEnded, bestStrike, standing, digest. */
public final class ForeseeTest {
    public static void main(String[] args) {
        ifDone();
        ifHelped();
        ifDoneWrong();
        ifEnded();
        bestStrike();
        bestStrikeBehindReadiedActs();
        standing();
        digest();
        Check.finish();
    }

    private static void dueIfDone(TurnTracker x, int kind, int goal, int... due) {
        long before = x.digest();
        for (int what = 0; what < due.length; what++) {
            Check.due("ifDone(" + kind + ", " + goal + ", " + what + ")", x.ifDone(kind, goal, what), due[what]);
        }
        Check.due("ifDone changes nothing", x.digest(), before);
    }

    private static void ifDone() {
        TurnTracker x = Check.duel(20, 9, 9, 5);
        dueIfDone(x, 0, 1, 1, 0, 1, 0);
        dueIfDone(x, 0, 0, 0, -1, -1, -1);
        dueIfDone(x, 1, 7, 1, 0, 1, 1);
        dueIfDone(x, 1, 8, 0, -1, -1, -1);
        dueIfDone(x, 2, 1, 0, -1, -1, -1);
        // The curse is a stun of one round, so 1 loses a turn by it.
        dueIfDone(x, 3, 1, 1, 0, 1, 0);
        x.ready(0, 1, -1, 1);
        dueIfDone(x, 1, 9, 1, 1, 0, 0);
        dueIfDone(x, 1, 3, 1, 1, 0, 0);
        dueIfDone(x, 1, 2, 0, -1, -1, -1);
        dueIfDone(x, 0, 0, 1, 0, 1, 0);
        TurnTracker y = new TurnTracker();
        y.come(0, 3, 5, 5);
        dueIfDone(y, 0, 0, 0, -1, -1, -1);
        dueIfDone(y, 1, 0, 0, -1, -1, -1);
        y.begin();
        dueIfDone(y, 1, 3, 1, 0, 1, 0);
    }

    private static void ifHelped() {
        TurnTracker x = Check.duel(20, 9, 9, 5);
        x.come(0, 15, 7, 1);
        x.end();
        x.step(3);
        x.step(5);
        x.end();
        x.end();
        x.strike(2);
        Check.due("turn", x.count(2), 0);
        dueIfDone(x, 2, 2, 1, 0, 1, 2);
        x.ready(0, 1, -1, 2);
        dueIfDone(x, 2, 0, 1, 0, 1, 1);
    }

    private static void ifDoneWrong() {
        TurnTracker x = Check.duel(20, 9, 9, 5);
        int[][] wrong = {{-1, 0, 0}, {4, 0, 0}, {0, 0, -1}, {0, 0, 4}, {0, 2, 0}, {0, -1, 0}, {2, 2, 0}, {3, 2, 0}, {3, -1, 3},
            {1, 10, 0}, {1, -1, 0}, {1, 5, 4}, {1, 5, -1}};
        for (int[] w : wrong) {
            Check.dueThrow(x, "ifDone wrong", Check.ARGUMENT, () -> x.ifDone(w[0], w[1], w[2]));
        }
        Check.due("a place that is no fighter", x.ifDone(1, 6, 0), 1);
    }

    private static void ifEnded() {
        TurnTracker x = new TurnTracker();
        Check.due("none", x.ifEnded(0), -1);
        Check.due("none", x.ifEnded(40), -1);
        Check.dueThrow(x, "ifEnded -1", Check.ARGUMENT, () -> x.ifEnded(-1));
        Check.dueThrow(x, "ifEnded 41", Check.ARGUMENT, () -> x.ifEnded(41));
        x.come(0, 30, 9, 1);
        x.come(1, 20, 3, 1);
        x.come(0, 10, 9, 1);
        x.begin();
        for (int turns = 0; turns <= 40; turns++) {
            Check.due("ifEnded(" + turns + ")", x.ifEnded(turns), turns % 3);
        }
        x.curse(1, 3, 2);
        x.undo();
        x.delay();
        x.curse(0, 0, 1);
        // Row 0 (stunned once, delays), 1, 2; 2 has the turn.
        int[] due = {2, 1, 2, 0, 1, 2, 0};
        for (int turns = 0; turns < due.length; turns++) {
            Check.due("with a stun: ifEnded(" + turns + ")", x.ifEnded(turns), due[turns]);
        }
        x.curse(1, 3, 3);
        // 1 bled once, and will fall by the second time.
        int[] then = {1, 2, 0, 2, 0, 2};
        for (int turns = 0; turns < then.length; turns++) {
            Check.due("with bleeding: ifEnded(" + turns + ")", x.ifEnded(turns), then[turns]);
        }
    }

    private static void bestStrike() {
        TurnTracker x = new TurnTracker();
        Check.due("none", x.bestStrike(), -1);
        x.come(0, 40, 50, 10);
        x.come(1, 30, 4, 1);
        x.come(0, 25, 50, 1);
        x.come(1, 20, 12, 1);
        x.come(1, 10, 30, 1);
        Check.due("no turn", x.bestStrike(), -1);
        x.begin();
        Check.due("all are far away, but for the own side", x.bestStrike(), -1);
        x.step(3);
        x.step(6);
        x.step(0);
        x.step(6);
        x.step(6);
        x.step(4);
        x.undo();
        Check.due("3 away", x.bestStrike(), -1);
        x.step(4);
        x.end();
        x.end();
        x.end();
        x.end();
        Check.due("3 and 4 lose 10 both, 1 just 4", x.bestStrike(), 3);
        Check.due("strike", x.strike(3), 10);
        x.end();
        x.end();
        x.end();
        x.end();
        Check.due("3 has just 2", x.bestStrike(), 4);
        x.strike(4);
        Check.due("of 1", x.bestStrike(), 0);
    }

    private static void bestStrikeBehindReadiedActs() {
        TurnTracker x = new TurnTracker();
        x.come(0, 40, 8, 9);
        x.come(1, 30, 9, 8);
        x.come(1, 20, 9, 1);
        x.come(0, 10, 9, 6);
        x.begin();
        x.step(3);
        x.step(6);
        x.step(6);
        x.step(3);
        x.step(4);
        x.end();
        x.end();
        x.step(4);
        // 3 strikes 1 first, so 2 has more to lose.
        x.end();
        x.end();
        x.end();
        x.ready(0, 1, 0, 0);
        Check.due("1 will have lost 6", x.bestStrike(), 2);
        Check.due("set off", x.ifDone(0, 1, 1), 1);
        x.end();
        x.ready(0, 0, -1, 0);
        x.end();
        x.end();
        Check.due("0 would fall before it", x.bestStrike(), -1);
        Check.due("possible now", x.ifDone(0, 1, 0), 1);
        // A strike of no loss is one, too; of several the lowest goal.
        TurnTracker y = Check.duel(9, 1, 9, 1);
        y.come(1, 5, 9, 1);
        y.end();
        y.curse(0, 1, 5);
        y.end();
        Check.due("slowed, of force 1", y.bestStrike(), 1);
    }

    private static void standing() {
        TurnTracker x = new TurnTracker();
        Check.dueShare("none", x.standing(), 0.5);
        x.come(0, 20, 7, 1);
        Check.dueShare("one side", x.standing(), 1.0);
        x.come(1, 10, 9, 1);
        Check.dueShare("7 of 16", x.standing(), 7.0 / 16.0);
        x.come(1, 10, 5, 1);
        Check.dueShare("7 of 21", x.standing(), 7.0 / 21.0);
        TurnTracker y = new TurnTracker();
        y.come(1, 10, 5, 1);
        Check.dueShare("the other side", y.standing(), 0.0);
    }

    /** The digest as the document lists it, by the other methods. */
    static long digestByLooks(TurnTracker x, String text) {
        long hash = 2767;
        for (int what = 0; what <= 12; what++) {
            hash = 31 * hash + x.count(what);
        }
        for (int fighter = 0; fighter < x.count(0); fighter++) {
            for (int what = 0; what <= 13; what++) {
                hash = 31 * hash + x.fighter(fighter, what);
            }
            for (int what = 0; what <= 3; what++) {
                hash = 31 * hash + x.readied(fighter, what);
            }
            for (int kind : new int[] {0, 2, 3}) {
                for (int what = 0; what <= 3; what++) {
                    hash = 31 * hash + x.ifDone(kind, fighter, what);
                }
            }
        }
        for (int place = 0; place <= 9; place++) {
            hash = 31 * hash + x.inRow(place);
        }
        for (int what = 0; what <= 3; what++) {
            hash = 31 * hash + x.ifDone(1, 5, what);
        }
        for (int turns = 0; turns <= 12; turns++) {
            hash = 31 * hash + x.ifEnded(turns);
        }
        hash = 31 * hash + x.bestStrike();
        hash = 31 * hash + Double.doubleToLongBits(x.standing());
        hash = 31 * hash + text.length();
        for (int i = 0; i < text.length(); i++) {
            hash = 31 * hash + text.charAt(i);
        }
        return hash;
    }

    private static void digest() {
        TurnTracker x = new TurnTracker();
        Check.due("digest of a new one", x.digest(), digestByLooks(x, ""));
        Check.type(x, "w;!~");
        Check.due("digest with a text", x.digest(), digestByLooks(x, "w;!~"));
        Check.due("digest changes nothing", x.digest(), digestByLooks(x, "w;!~"));
        TurnTracker y = Check.duel(20, 9, 9, 5);
        y.ready(0, 1, -1, 1);
        Check.due("digest in the skirmish", y.digest(), digestByLooks(y, ""));
        y.undo();
        y.step(1);
        y.end();
        Check.due("digest with the place 5 just out of reach, 4 in it", y.digest(), digestByLooks(y, ""));
        // The bits of all shares that two lives can have.
        for (int first = 1; first <= 99; first++) {
            for (int second = 1; second <= 99; second++) {
                TurnTracker z = new TurnTracker();
                z.come(0, 1, first, 1);
                z.come(1, 1, second, 1);
                Check.due("digest of " + first + " and " + second, z.digest(), digestByLooks(z, ""));
            }
        }
    }
}
