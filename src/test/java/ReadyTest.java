/** Promises 9 and 18: ready and readied; readied acts that come ahead of their cause. */
public final class ReadyTest {
    public static void main(String[] args) {
        readyAndReadied();
        readyWrong();
        aheadOfTheStep();
        theCauseFails();
        theGoalFallsBefore();
        severalInTheRow();
        readiersFailByStunAndFall();
        aStunnedReadierFails();
        causesThatDoNotFit();
        lostWithTheTurn();
        helpIsReadied();
        readierWhoFell();
        Check.finish();
    }

    private static void dueReadied(String what, TurnTracker x, int fighter, int... due) {
        for (int i = 0; i < due.length; i++) {
            Check.due(what + ": readied(" + fighter + ", " + i + ")", x.readied(fighter, i), due[i]);
        }
    }

    private static void readyAndReadied() {
        TurnTracker x = new TurnTracker();
        x.come(0, 20, 9, 3);
        x.come(1, 10, 9, 3);
        x.begin();
        dueReadied("none", x, 0, -1, -1, -1, -1);
        Check.due("ready, far away", x.ready(0, 1, -1, 3), 1);
        dueReadied("0", x, 0, 0, 1, -1, 3);
        Check.due("status", x.fighter(0, 7), 2);
        Check.due("readied", x.count(6), 1);
        Check.due("ready help of a foe", x.ready(2, 0, 0, 0), 0);
        dueReadied("1", x, 1, 2, 0, 0, 0);
        dueReadied("0 lost it as the turn began", x, 0, -1, -1, -1, -1);
        Check.due("readied", x.count(6), 1);
        Check.due("acts", x.count(7), 0);
        Check.due("failed", x.count(8), 0);
        Check.dueThrow(x, "readied of none", Check.BOUNDS, () -> x.readied(2, 0));
        Check.dueThrow(x, "readied of -1", Check.BOUNDS, () -> x.readied(-1, 9));
        Check.dueThrow(x, "readied what 4", Check.ARGUMENT, () -> x.readied(0, 4));
        Check.dueThrow(x, "readied what -1", Check.ARGUMENT, () -> x.readied(0, -1));
    }

    private static void readyWrong() {
        TurnTracker x = new TurnTracker();
        x.come(0, 20, 9, 3);
        x.come(1, 10, 9, 3);
        Check.dueThrow(x, "ready, no turn", Check.STATE, () -> x.ready(0, 1, -1, 0));
        x.begin();
        Check.dueThrow(x, "goal 2", Check.BOUNDS, () -> x.ready(1, 2, -1, 0));
        Check.dueThrow(x, "goal -1", Check.BOUNDS, () -> x.ready(0, -1, -1, 0));
        Check.dueThrow(x, "who 2", Check.BOUNDS, () -> x.ready(0, 1, 2, 9));
        Check.dueThrow(x, "who -2", Check.BOUNDS, () -> x.ready(0, 0, -2, 0));
        Check.dueThrow(x, "kind 1", Check.ARGUMENT, () -> x.ready(1, 1, -1, 0));
        Check.dueThrow(x, "kind 3", Check.ARGUMENT, () -> x.ready(3, 1, -1, 0));
        Check.dueThrow(x, "kind -1", Check.ARGUMENT, () -> x.ready(-1, 1, -1, 0));
        Check.dueThrow(x, "cause 4", Check.ARGUMENT, () -> x.ready(0, 0, -1, 4));
        Check.dueThrow(x, "cause -1", Check.ARGUMENT, () -> x.ready(0, 1, -1, -1));
        Check.dueThrow(x, "goal is self", Check.STATE, () -> x.ready(0, 0, -1, 0));
        Check.dueThrow(x, "cause is self", Check.STATE, () -> x.ready(0, 1, 0, 0));
    }

    private static void aheadOfTheStep() {
        TurnTracker x = Check.duel(20, 5, 20, 5);
        x.come(1, 30, 9, 9);
        x.ready(0, 1, 1, 1);
        Check.due("sets off", x.ifDone(1, 9, 1), 1);
        Check.due("step away", x.step(9), 3);
        Check.due("struck before it", x.fighter(1, 2), 15);
        Check.due("taken", x.fighter(0, 13), 5);
        Check.due("acts of 0", x.fighter(0, 12), 3);
        Check.due("acts", x.count(7), 6);
        Check.due("failed", x.count(8), 0);
        Check.due("used up", x.readied(0, 0), -1);
        Check.due("initiative", x.fighter(0, 1), 10);
        Check.dueRow("0 stands just ahead of 1", x, 2, 0, 1);
        Check.due("turn", x.count(2), 2);
        Check.due("round", x.count(1), 4);
    }

    private static void theCauseFails() {
        TurnTracker x = Check.duel(20, 9, 5, 5);
        x.ready(0, 1, -1, 0);
        Check.due("possible", x.ifDone(0, 0, 0), 1);
        Check.due("would not be done", x.ifDone(0, 0, 2), 0);
        Check.due("turn then", x.ifDone(0, 0, 3), 0);
        Check.due("strike fails", x.strike(0), -1);
        Check.due("fell", x.fighter(1, 7), 3);
        Check.due("life stays", x.fighter(0, 2), 20);
        Check.due("failed", x.count(8), 1);
        Check.due("acts of 1", x.fighter(1, 12), 2);
        Check.due("taken", x.fighter(0, 13), 5);
        Check.due("turn", x.count(2), 0);
        TurnTracker y = Check.duel(20, 9, 5, 5);
        y.ready(0, 1, -1, 1);
        Check.due("step fails", y.step(9), -1);
        Check.due("place stays", y.fighter(1, 5), 6);
        TurnTracker z = Check.duel(20, 9, 5, 5);
        z.ready(0, 1, -1, 3);
        Check.due("curse fails", z.curse(0, 0, 5), -1);
        Check.due("no stun", z.fighter(0, 8), 0);
    }

    private static void theGoalFallsBefore() {
        TurnTracker x = Check.duel(20, 9, 20, 5);
        x.come(1, 15, 9, 9);
        x.end();
        x.step(6);
        x.end();
        x.ready(0, 2, 1, 2);
        x.end();
        Check.due("help fails, its goal fell", x.help(2), -1);
        Check.due("fell", x.fighter(2, 2), 0);
        Check.due("failed", x.count(8), 1);
        Check.due("turn goes on", x.count(2), 0);
        Check.dueRow("0 stands just ahead of 1", x, 2, 0, 1);
    }

    private static void severalInTheRow() {
        TurnTracker x = new TurnTracker();
        x.come(0, 10, 50, 2);
        x.come(0, 30, 50, 3);
        x.come(1, 20, 50, 1);
        x.come(0, 25, 50, 4);
        x.begin();
        // 1, 3, 2, 0: all of the side 0 wait for any strike of the other side.
        x.end();
        x.end();
        x.step(6);
        x.step(3);
        x.step(3);
        x.step(3);
        x.step(5);
        x.ready(0, 2, -1, 0);
        x.ready(0, 2, -1, 0);
        x.ready(0, 2, 2, 0);
        Check.due("turn", x.count(2), 2);
        Check.due("sets off", x.ifDone(0, 1, 1), 3);
        int acts = x.count(7);
        Check.due("strike", x.strike(1), 1);
        Check.due("struck by three", x.fighter(2, 2), 41);
        Check.due("acts", x.count(7), acts + 4);
        Check.due("failed", x.count(8), 0);
        Check.dueRow("in the order of the row, just ahead", x, 1, 3, 0, 2);
        Check.due("initiative of 0", x.fighter(0, 1), 20);
        Check.due("initiative of 1", x.fighter(1, 1), 20);
        Check.due("initiative of 3", x.fighter(3, 1), 20);
        Check.due("round", x.count(1), 4);
        Check.due("turn", x.count(2), 1);
    }

    private static void readiersFailByStunAndFall() {
        TurnTracker x = new TurnTracker();
        x.come(0, 30, 9, 9);
        x.come(0, 25, 9, 9);
        x.come(1, 20, 9, 1);
        x.come(1, 10, 9, 1);
        x.begin();
        // 0 will strike down 1, whose own readied act then fails; both are set off by the step of 3.
        x.ready(0, 1, 3, 1);
        x.ready(0, 0, 3, 1);
        x.end();
        Check.due("set off", x.ifDone(1, 7, 1), 2);
        Check.due("step", x.step(7), 2);
        Check.due("1 fell", x.fighter(1, 7), 3);
        Check.due("0 did not", x.fighter(0, 2), 9);
        Check.due("failed", x.count(8), 1);
        Check.due("used up", x.readied(1, 0), -1);
        Check.due("initiative of the fallen one", x.fighter(1, 1), 10);
        Check.dueRow("both stand ahead", x, 2, 0, 1, 3);
        x.end();
        x.ready(0, 2, -1, 1);
        Check.due("3 stuns 0", x.curse(0, 0, 3), 3);
        int failed = x.count(8);
        Check.due("set off", x.ifDone(1, 9, 1), 1);
        x.step(9);
        Check.due("a stunned one fails", x.count(8), failed + 1);
        Check.due("used up", x.readied(0, 0), -1);
        Check.dueRow("stands ahead of 2", x, 0, 2, 1, 3);
        Check.due("initiative", x.fighter(0, 1), 20);
    }

    private static void aStunnedReadierFails() {
        TurnTracker x = Check.duel(20, 5, 20, 5);
        x.come(1, 15, 9, 1);
        x.ready(0, 1, 1, 1);
        x.curse(0, 0, 2);
        Check.due("set off", x.ifDone(1, 6, 1), 1);
        Check.due("step", x.step(6), 0);
        Check.due("not struck, though near", x.fighter(1, 2), 20);
        Check.due("failed", x.count(8), 1);
        Check.due("acts of 0", x.fighter(0, 12), 2);
        Check.due("used up", x.readied(0, 0), -1);
        Check.due("initiative", x.fighter(0, 1), 10);
        Check.dueRow("0 stands ahead of 1", x, 2, 0, 1);
    }

    private static void causesThatDoNotFit() {
        TurnTracker x = Check.duel(20, 5, 20, 5);
        x.come(0, 15, 20, 5);
        x.come(1, 5, 20, 5);
        x.ready(0, 1, -1, 0);
        Check.due("own side is no cause for any one", x.ifDone(1, 3, 1), 0);
        x.step(3);
        Check.due("another kind is no cause", x.ifDone(1, 6, 1), 0);
        Check.due("the kind is", x.ifDone(0, 0, 1), 1);
        Check.due("not possible", x.ifDone(3, 3, 1), -1);
        x.step(7);
        x.end();
        x.ready(0, 2, 2, 1);
        Check.due("one of the own side as cause", x.ifDone(1, 5, 1), 1);
        Check.due("another kind", x.ifDone(3, 1, 1), 0);
        x.step(5);
        Check.due("struck by the own side", x.fighter(2, 2), 15);
        x.end();
        x.end();
        x.ready(0, 1, 3, 1);
        x.end();
        Check.due("another fighter is no cause", x.ifDone(1, 7, 1), 0);
        x.end();
        Check.due("this one is", x.ifDone(1, 7, 1), 1);
        // A readied strike is no cause for one that is readied for strikes.
        TurnTracker y = Check.duel(20, 5, 20, 5);
        y.come(1, 15, 20, 7);
        y.step(4);
        y.step(6);
        y.step(6);
        y.ready(0, 1, 1, 1);
        y.ready(0, 0, -1, 0);
        Check.due("step sets off one", y.ifDone(1, 6, 1), 1);
        y.step(6);
        Check.due("0 is not struck for a readied strike", y.fighter(0, 2), 20);
        Check.due("2 did no more than its step", y.fighter(2, 12), 1);
        Check.due("nor failed", y.count(8), 0);
    }

    private static void lostWithTheTurn() {
        TurnTracker x = Check.duel(20, 5, 20, 5);
        x.ready(0, 1, -1, 1);
        x.end();
        Check.due("lost", x.readied(0, 0), -1);
        Check.due("not failed", x.count(8), 0);
        x.end();
        x.step(6);
        Check.due("not struck", x.fighter(1, 2), 20);
        // Lost also if the turn ends at once.
        x.end();
        x.end();
        x.ready(0, 1, 1, 0);
        x.curse(0, 0, 1);
        Check.due("lost in a turn without an act", x.readied(0, 0), -1);
        Check.due("1 has the turn", x.count(2), 1);
    }

    private static void helpIsReadied() {
        TurnTracker x = Check.duel(20, 5, 20, 9);
        x.come(0, 15, 9, 1);
        x.come(0, 14, 9, 1);
        x.step(3);
        x.step(3);
        x.step(1);
        x.step(5);
        x.end();
        x.ready(2, 0, 1, 0);
        x.ready(2, 0, 1, 0);
        x.strike(0);
        Check.due("help comes ahead of the hurt", x.fighter(0, 2), 11);
        Check.due("acts of 2", x.fighter(2, 12), 2);
        x.end();
        x.ready(2, 0, 1, 3);
        x.ready(2, 1, 1, 3);
        int failed = x.count(8);
        x.curse(0, 3, 5);
        Check.due("help of a foe fails", x.count(8), failed + 1);
        Check.due("helped before the curse, bled behind it", x.fighter(0, 2), 13);
        Check.due("bleeds on", x.fighter(0, 11), 5);
    }

    private static void readierWhoFell() {
        TurnTracker x = Check.duel(5, 5, 20, 9);
        x.come(0, 15, 9, 1);
        x.ready(0, 1, -1, 1);
        x.step(3);
        x.strike(0);
        Check.due("fell", x.fighter(0, 7), 3);
        dueReadied("told still", x, 0, 0, 1, -1, 1);
        Check.due("not counted", x.count(6), 0);
        x.step(3);
        Check.due("not set off", x.ifDone(1, 5, 1), 0);
        x.step(5);
        Check.due("never done", x.fighter(1, 2), 20);
        dueReadied("told still", x, 0, 0, 1, -1, 1);
        x.begin();
        dueReadied("nothing is readied", x, 0, -1, -1, -1, -1);
    }
}
