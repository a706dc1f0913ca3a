/** Promises 8, 10, 11: delay, end, comeIn; rounds. */
public final class TurnsTest {
    public static void main(String[] args) {
        endOfTurnsAndRounds();
        nobodyHasTheTurn();
        delayAndComeIn();
        severalComeIn();
        delayIntoTheNextRound();
        comeInWrong();
        allFallByBleeding();
        Check.finish();
    }

    private static TurnTracker four() {
        TurnTracker x = new TurnTracker();
        x.come(0, 40, 9, 3);
        x.come(1, 30, 9, 3);
        x.come(0, 20, 9, 3);
        x.come(1, 10, 9, 3);
        x.begin();
        return x;
    }

    private static void endOfTurnsAndRounds() {
        TurnTracker x = four();
        for (int turns = 1; turns <= 12; turns++) {
            Check.due("end " + turns, x.end(), turns % 4);
            Check.due("round " + turns, x.count(1), 1 + turns / 4);
            Check.due("turns " + turns, x.count(9), 1 + turns);
        }
        Check.due("acts", x.count(7), 0);
        Check.due("failed", x.count(8), 0);
        Check.due("saved", x.count(12), 6);
    }

    private static void nobodyHasTheTurn() {
        TurnTracker x = new TurnTracker();
        x.come(0, 1, 1, 1);
        Check.dueThrow(x, "end", Check.STATE, x::end);
        Check.dueThrow(x, "delay", Check.STATE, x::delay);
        Check.dueThrow(x, "comeIn", Check.STATE, () -> x.comeIn(0));
        Check.dueThrow(x, "comeIn none", Check.BOUNDS, () -> x.comeIn(1));
        x.begin();
        Check.due("alone: end", x.end(), 0);
        Check.due("alone: round", x.count(1), 2);
        Check.due("alone: delay", x.delay(), 0);
        Check.due("alone: round", x.count(1), 3);
        Check.due("alone: delays no more", x.count(5), 0);
    }

    private static void delayAndComeIn() {
        TurnTracker x = four();
        Check.due("delay", x.delay(), 1);
        Check.due("status", x.fighter(0, 7), 1);
        Check.due("delaying", x.count(5), 1);
        Check.dueRow("the row stays", x, 0, 1, 2, 3);
        x.end();
        Check.due("comeIn", x.comeIn(0), 20);
        Check.dueRow("came in", x, 1, 2, 0, 3);
        Check.due("initiative", x.fighter(0, 1), 20);
        Check.due("status", x.fighter(0, 7), 0);
        Check.due("the turn stays", x.count(2), 2);
        Check.due("turns", x.count(9), 3);
        Check.due("acts", x.count(7), 0);
        Check.due("end", x.end(), 0);
        Check.due("it can delay again", x.delay(), 3);
        Check.due("end", x.end(), 1);
        Check.due("round", x.count(1), 2);
        Check.due("delays no more", x.count(5), 0);
        Check.dueRow("and stands as it did", x, 1, 2, 0, 3);
    }

    private static void severalComeIn() {
        TurnTracker x = four();
        x.delay();
        x.delay();
        Check.due("delaying", x.count(5), 2);
        x.comeIn(0);
        x.comeIn(1);
        Check.dueRow("the later one stands ahead", x, 2, 1, 0, 3);
        Check.due("delay of the one they came in behind", x.delay(), 1);
        Check.due("end", x.end(), 0);
        Check.due("comeIn", x.comeIn(2), 20);
        Check.dueRow("came in", x, 1, 0, 2, 3);
        Check.due("end", x.end(), 2);
    }

    private static void delayIntoTheNextRound() {
        TurnTracker x = four();
        x.end();
        x.end();
        x.end();
        Check.due("the last one delays", x.delay(), 0);
        Check.due("nobody delays", x.count(5), 0);
        Check.due("round", x.count(1), 2);
        // Conditions have a round less when a delay ends the turn, too.
        x.curse(3, 2, 3);
        x.end();
        x.end();
        x.delay();
        Check.due("rounds", x.fighter(3, 10), 2);
        x.delay();
        x.delay();
        x.delay();
        Check.due("all but one delay", x.count(5), 3);
        Check.due("delay of all", x.delay(), 0);
        Check.due("nobody delays", x.count(5), 0);
        // Who delays and is made to stand behind the turn is passed over.
        x.delay();
        x.delay();
        x.ready(0, 3, 3, 1);
        x.comeIn(0);
        x.step(9);
        Check.dueRow("2 came ahead of 3", x, 1, 2, 3, 0);
        Check.due("turn", x.count(2), 0);
    }

    private static void comeInWrong() {
        TurnTracker x = four();
        x.delay();
        Check.dueThrow(x, "comeIn without a delay", Check.STATE, () -> x.comeIn(2));
        Check.dueThrow(x, "comeIn of the turn itself", Check.STATE, () -> x.comeIn(1));
        Check.dueThrow(x, "comeIn 4", Check.BOUNDS, () -> x.comeIn(4));
        Check.dueThrow(x, "comeIn -1", Check.BOUNDS, () -> x.comeIn(-1));
        x.comeIn(0);
        Check.dueThrow(x, "comeIn twice", Check.STATE, () -> x.comeIn(0));
        TurnTracker y = Check.duel(3, 3, 9, 9);
        y.delay();
        y.strike(0);
        Check.dueThrow(y, "comeIn of a fallen one", Check.STATE, () -> y.comeIn(0));
        y.come(0, 1, 9, 9);
        TurnTracker z = Check.duel(3, 3, 9, 9);
        z.come(1, 5, 9, 9);
        z.delay();
        z.strike(0);
        Check.due("the round goes on", z.count(2), 2);
        Check.due("a fallen one does not delay", z.count(5), 0);
        Check.due("status", z.fighter(0, 7), 3);
        Check.dueThrow(z, "comeIn of one who delays, but fell", Check.STATE, () -> z.comeIn(0));
    }

    private static void allFallByBleeding() {
        TurnTracker x = new TurnTracker();
        x.come(0, 20, 3, 9);
        x.come(1, 10, 1, 9);
        x.begin();
        x.end();
        x.curse(0, 3, 5);
        Check.due("0 bled", x.fighter(0, 2), 1);
        x.curse(1, 3, 5);
        Check.due("1 fell, 0 fell in the next round", x.count(2), -1);
        Check.due("the round in which the last one fell", x.count(1), 3);
        Check.due("turns", x.count(9), 5);
        Check.dueShare("standing", x.standing(), 0.5);
        Check.dueThrow(x, "end", Check.STATE, x::end);
        Check.dueThrow(x, "delay", Check.STATE, x::delay);
        Check.due("ifEnded", x.ifEnded(3), -1);
        Check.due("come", x.come(0, 1, 5, 5), 2);
        Check.due("nobody has the turn still", x.count(2), -1);
        Check.due("begin", x.begin(), 2);
    }
}
