/** Promises 17 to 20: fighter, readied, inRow, count (readied stands in ReadyTest, too). */
public final class LooksTest {
    public static void main(String[] args) {
        fighter();
        fighterWrong();
        inRow();
        count();
        countWrong();
        Check.finish();
    }

    private static void fighter() {
        TurnTracker x = Check.duel(20, 5, 4, 6);
        x.come(0, 15, 9, 2);
        x.curse(1, 0, 1);
        Check.due("2 has the turn", x.count(2), 2);
        x.curse(1, 1, 2);
        Check.due("1 was stunned: 0", x.count(2), 0);
        x.curse(1, 2, 3);
        x.curse(1, 3, 5);
        int[] second = {1, 10, 2, 4, 6, 6, 2, 0, 0, 1, 3, 5, 2, 0};
        for (int what = 0; what < second.length; what++) {
            Check.due("fighter(1, " + what + ")", x.fighter(1, what), second[what]);
        }
        Check.due("strike of the blessed and slowed", x.strike(0), 4);
        int[] afterStrike = {1, 10, 2, 4, 6, 6, 2, 0, 0, 0, 2, 4, 3, 4};
        for (int what = 0; what < afterStrike.length; what++) {
            Check.due("then fighter(1, " + what + ")", x.fighter(1, what), afterStrike[what]);
        }
        x.strike(1);
        int[] fallen = {1, 10, 0, 4, 6, 6, 2, 3, 0, 0, 2, 4, 3, 4};
        for (int what = 0; what < fallen.length; what++) {
            Check.due("fallen: fighter(1, " + what + ")", x.fighter(1, what), fallen[what]);
        }
        Check.due("taken", x.fighter(0, 13), 2);
    }

    private static void fighterWrong() {
        TurnTracker x = new TurnTracker();
        Check.dueThrow(x, "fighter of none", Check.BOUNDS, () -> x.fighter(0, 0));
        x.come(0, 1, 1, 1);
        Check.dueThrow(x, "fighter 1", Check.BOUNDS, () -> x.fighter(1, 99));
        Check.dueThrow(x, "fighter -1", Check.BOUNDS, () -> x.fighter(-1, 0));
        Check.dueThrow(x, "what -1", Check.ARGUMENT, () -> x.fighter(0, -1));
        Check.dueThrow(x, "what 14", Check.ARGUMENT, () -> x.fighter(0, 14));
        Check.dueThrow(x, "what MAX", Check.ARGUMENT, () -> x.fighter(0, Integer.MAX_VALUE));
    }

    private static void inRow() {
        TurnTracker x = new TurnTracker();
        Check.dueThrow(x, "inRow -1", Check.ARGUMENT, () -> x.inRow(-1));
        Check.dueThrow(x, "inRow MIN", Check.ARGUMENT, () -> x.inRow(Integer.MIN_VALUE));
        Check.due("inRow 0", x.inRow(0), -1);
        x.come(0, 1, 1, 1);
        x.come(0, 2, 1, 1);
        Check.due("inRow 0", x.inRow(0), 1);
        Check.due("inRow 1", x.inRow(1), 0);
        Check.due("inRow 2", x.inRow(2), -1);
        Check.due("inRow MAX", x.inRow(Integer.MAX_VALUE), -1);
    }

    private static void dueCounts(String what, TurnTracker x, int... due) {
        for (int i = 0; i < due.length; i++) {
            Check.due(what + ": count(" + i + ")", x.count(i), due[i]);
        }
    }

    private static void count() {
        TurnTracker x = Check.duel(20, 5, 4, 6);
        x.come(0, 15, 9, 2);
        x.come(1, 5, 8, 2);
        dueCounts("at first", x, 4, 3, 0, 2, 2, 0, 0, 4, 0, 5, 29, 12, 6);
        x.delay();
        dueCounts("delayed", x, 4, 3, 2, 2, 2, 1, 0, 4, 0, 6, 29, 12, 6);
        x.ready(0, 1, 1, 0);
        dueCounts("readied", x, 4, 3, 1, 2, 2, 1, 1, 4, 0, 7, 29, 12, 6);
        x.strike(0);
        dueCounts("the readied strike was too far away", x, 4, 3, 3, 2, 2, 1, 0, 5, 1, 8, 23, 12, 6);
        x.end();
        // The row is 0, 2, 1, 3.
        dueCounts("the round 4", x, 4, 4, 0, 2, 2, 0, 0, 5, 1, 9, 23, 12, 6);
        x.strike(1);
        dueCounts("1 fell", x, 4, 4, 2, 2, 1, 0, 0, 6, 1, 10, 23, 8, 6);
        x.undo();
        dueCounts("undone", x, 4, 4, 0, 2, 2, 0, 0, 5, 1, 9, 23, 12, 5);
    }

    private static void countWrong() {
        TurnTracker x = new TurnTracker();
        Check.dueThrow(x, "count -1", Check.ARGUMENT, () -> x.count(-1));
        Check.dueThrow(x, "count 13", Check.ARGUMENT, () -> x.count(13));
    }
}
