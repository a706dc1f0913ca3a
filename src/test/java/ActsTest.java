/** Promises 4 to 7: strike, step, help, curse; and what conditions do. */
public final class ActsTest {
    public static void main(String[] args) {
        strike();
        strikeBlessedAndSlowed();
        strikeWrong();
        step();
        help();
        helpWrong();
        curse();
        curseWrong();
        bleeding();
        stunning();
        allFall();
        Check.finish();
    }

    private static void strike() {
        TurnTracker x = Check.duel(30, 5, 12, 7);
        Check.due("turn", x.count(2), 0);
        Check.due("strike", x.strike(1), 5);
        Check.due("life", x.fighter(1, 2), 7);
        Check.due("most life", x.fighter(1, 3), 12);
        Check.due("taken", x.fighter(0, 13), 5);
        Check.due("acts", x.fighter(0, 12), 3);
        Check.due("turn goes on", x.count(2), 1);
        Check.due("strike back", x.strike(0), 7);
        x.strike(1);
        x.end();
        Check.due("strike, at most all", x.strike(1), 2);
        Check.due("fallen", x.fighter(1, 7), 3);
        Check.due("taken", x.fighter(0, 13), 12);
        Check.due("life of the side 1", x.count(11), 0);
        Check.due("0 alone again", x.count(2), 0);
        Check.dueThrow(x, "strike at a fallen one", Check.STATE, () -> x.strike(1));
        Check.due("the fallen one stays in the row", x.inRow(1), 1);
        Check.due("come behind", x.come(0, 5, 9, 2), 2);
        x.step(2);
        Check.due("strike at the own side, 2 away", x.strike(0), 2);
        Check.due("life", x.fighter(0, 2), 21);
    }

    private static void strikeBlessedAndSlowed() {
        TurnTracker x = Check.duel(99, 1, 99, 7);
        x.curse(1, 2, 2);
        Check.due("blessed", x.strike(0), 10);
        Check.due("one round less", x.fighter(1, 10), 1);
        x.curse(1, 1, 1);
        Check.due("blessed and slowed", x.strike(0), 5);
        Check.due("blessing is over", x.fighter(1, 10), 0);
        Check.due("slowness is over", x.fighter(1, 9), 0);
        x.curse(1, 1, 5);
        Check.due("slowed, rounded down", x.strike(0), 3);
        x.end();
        x.curse(0, 1, 1);
        int failed = x.count(8);
        Check.due("slowed, of force 1", x.strike(1), 0);
        Check.due("that does not fail", x.count(8), failed);
    }

    private static void strikeWrong() {
        TurnTracker x = new TurnTracker();
        x.come(0, 20, 9, 1);
        x.come(1, 10, 9, 1);
        Check.dueThrow(x, "strike ahead of the beginning", Check.STATE, () -> x.strike(1));
        Check.dueThrow(x, "strike at none, no turn", Check.BOUNDS, () -> x.strike(2));
        x.begin();
        Check.dueThrow(x, "strike far", Check.STATE, () -> x.strike(1));
        Check.dueThrow(x, "strike self", Check.STATE, () -> x.strike(0));
        Check.dueThrow(x, "strike -1", Check.BOUNDS, () -> x.strike(-1));
        Check.dueThrow(x, "strike 2", Check.BOUNDS, () -> x.strike(2));
        Check.dueThrow(x, "strike MIN", Check.BOUNDS, () -> x.strike(Integer.MIN_VALUE));
        x.step(3);
        x.step(6);
        Check.dueThrow(x, "strike 3 away", Check.STATE, () -> x.strike(1));
        x.step(4);
        Check.due("strike 2 away", x.strike(0), 1);
    }

    private static void step() {
        TurnTracker x = new TurnTracker();
        x.come(0, 20, 9, 1);
        x.come(1, 10, 9, 1);
        Check.dueThrow(x, "step, no turn", Check.STATE, () -> x.step(0));
        Check.dueThrow(x, "step 10, no turn", Check.ARGUMENT, () -> x.step(10));
        x.begin();
        Check.dueThrow(x, "step 4 far", Check.STATE, () -> x.step(4));
        Check.dueThrow(x, "step -1", Check.ARGUMENT, () -> x.step(-1));
        Check.due("step 3 far", x.step(3), 3);
        Check.due("place", x.fighter(0, 5), 3);
        Check.due("step to the same", x.step(9), 0);
        Check.due("step back", x.step(1), 2);
        x.curse(0, 1, 2);
        Check.dueThrow(x, "step 2 far, slowed", Check.STATE, () -> x.step(3));
        Check.due("step, slowed", x.step(2), 1);
        x.end();
        Check.due("step, slowed", x.step(1), 1);
        x.end();
        Check.due("step, slow no more", x.step(4), 3);
    }

    private static void help() {
        TurnTracker x = Check.duel(20, 5, 20, 9);
        x.come(0, 15, 7, 1);
        x.end();
        x.step(3);
        x.strike(0);
        x.step(4);
        x.come(0, 12, 3, 1);
        Check.due("help", x.help(0), 15);
        Check.due("acts", x.fighter(2, 12), 2);
        x.step(3);
        x.curse(0, 3, 4);
        Check.due("0 bleeds", x.fighter(0, 2), 13);
        x.step(4);
        Check.due("help again", x.help(0), 17);
        Check.due("bleeding ends", x.fighter(0, 11), 0);
        x.end();
        x.end();
        x.end();
        Check.due("help up to the most", x.help(0), 20);
    }

    private static void helpWrong() {
        TurnTracker x = Check.duel(9, 5, 2, 9);
        x.come(0, 15, 7, 1);
        Check.dueThrow(x, "help a foe", Check.STATE, () -> x.help(1));
        Check.dueThrow(x, "help self", Check.STATE, () -> x.help(0));
        Check.dueThrow(x, "help far", Check.STATE, () -> x.help(2));
        Check.dueThrow(x, "help 3", Check.BOUNDS, () -> x.help(3));
        Check.dueThrow(x, "help -1", Check.BOUNDS, () -> x.help(-1));
        x.come(1, 12, 9, 1);
        x.strike(1);
        x.step(1);
        x.step(7);
        x.step(3);
        x.end();
        Check.dueThrow(x, "help a fallen one", Check.STATE, () -> x.help(1));
        TurnTracker y = new TurnTracker();
        y.come(0, 1, 1, 1);
        y.come(0, 1, 1, 1);
        Check.dueThrow(y, "help, no turn", Check.STATE, () -> y.help(1));
        y.begin();
        Check.due("help none hurt", y.help(1), 1);
    }

    private static void curse() {
        TurnTracker x = new TurnTracker();
        x.come(0, 20, 50, 1);
        x.come(1, 10, 50, 1);
        x.begin();
        Check.due("curse anywhere", x.curse(1, 1, 4), 4);
        Check.due("slowed", x.fighter(1, 9), 4);
        x.end();
        Check.due("a turn passed", x.fighter(1, 9), 3);
        Check.due("shorter: the greater one of both", x.curse(1, 1, 2), 3);
        x.end();
        Check.due("longer: the greater one of both", x.curse(1, 1, 5), 5);
        x.end();
        Check.due("another one", x.curse(1, 2, 1), 1);
        Check.due("both", x.fighter(1, 9), 4);
        Check.due("acts", x.count(7), 4);
    }

    private static void curseWrong() {
        TurnTracker x = new TurnTracker();
        x.come(0, 20, 2, 1);
        x.come(1, 10, 9, 1);
        x.come(0, 5, 9, 1);
        Check.dueThrow(x, "curse, no turn", Check.STATE, () -> x.curse(1, 0, 1));
        x.begin();
        Check.dueThrow(x, "curse none", Check.BOUNDS, () -> x.curse(3, 9, 9));
        Check.dueThrow(x, "curse -1", Check.BOUNDS, () -> x.curse(-1, 0, 1));
        Check.dueThrow(x, "curse condition 4", Check.ARGUMENT, () -> x.curse(1, 4, 1));
        Check.dueThrow(x, "curse condition -1", Check.ARGUMENT, () -> x.curse(1, -1, 1));
        Check.dueThrow(x, "curse rounds 0", Check.ARGUMENT, () -> x.curse(1, 0, 0));
        Check.dueThrow(x, "curse rounds 6", Check.ARGUMENT, () -> x.curse(0, 0, 6));
        Check.dueThrow(x, "curse self", Check.STATE, () -> x.curse(0, 0, 1));
        Check.dueThrow(x, "curse own side", Check.STATE, () -> x.curse(2, 0, 1));
        x.end();
        x.curse(0, 3, 1);
        x.end();
        Check.due("0 fell", x.fighter(0, 7), 3);
        Check.dueThrow(x, "curse a fallen one", Check.STATE, () -> x.curse(0, 0, 1));
    }

    private static void bleeding() {
        TurnTracker x = new TurnTracker();
        x.come(0, 20, 7, 1);
        x.come(1, 10, 3, 1);
        x.come(1, 5, 3, 1);
        x.begin();
        Check.due("curse with bleeding", x.curse(1, 3, 3), 3);
        Check.due("1 bled as the turn began", x.fighter(1, 2), 1);
        Check.due("1 has the turn", x.count(2), 1);
        x.end();
        Check.due("rounds", x.fighter(1, 11), 2);
        x.end();
        Check.due("end: 1 bleeds all that is left", x.end(), 2);
        Check.due("1 fell", x.fighter(1, 2), 0);
        Check.due("a turn began and ended by it", x.fighter(1, 11), 1);
        Check.due("turns", x.count(9), 6);
        Check.due("round", x.count(1), 2);
        Check.due("nobody took that life", x.fighter(0, 13), 0);
        x.end();
        Check.due("end: 1 has no turn", x.end(), 2);
        Check.due("its condition stays", x.fighter(1, 11), 1);
    }

    private static void stunning() {
        TurnTracker x = new TurnTracker();
        x.come(0, 20, 9, 1);
        x.come(1, 10, 9, 1);
        x.begin();
        x.end();
        x.curse(0, 3, 5);
        x.end();
        Check.due("curse with a stun", x.curse(0, 0, 3), 3);
        Check.due("0 loses the turn, and bleeds", x.fighter(0, 2), 5);
        Check.due("stun is less", x.fighter(0, 8), 2);
        Check.due("bleeding is less", x.fighter(0, 11), 3);
        Check.due("1 has the turn", x.count(2), 1);
        Check.due("round", x.count(1), 3);
        Check.due("end", x.end(), 1);
        Check.due("round", x.count(1), 4);
        Check.due("0 bled", x.fighter(0, 2), 3);
        Check.due("end", x.end(), 1);
        Check.due("stun is over", x.fighter(0, 8), 0);
        Check.due("0 bled", x.fighter(0, 2), 1);
        Check.due("turns", x.count(9), 10);
        Check.due("end: 0 falls", x.end(), 1);
        Check.due("end: 1 is alone", x.end(), 1);
    }

    private static void allFall() {
        TurnTracker x = new TurnTracker();
        x.come(0, 20, 1, 1);
        x.come(1, 10, 1, 1);
        x.begin();
        x.curse(1, 3, 5);
        Check.due("1 falls at once, 0 has the turn in the round 2", x.count(1), 2);
        Check.due("turn", x.count(2), 0);
        x.come(1, 15, 9, 1);
        x.end();
        x.curse(0, 3, 1);
        Check.due("round", x.count(1), 3);
        Check.due("turn", x.count(2), 2);
        TurnTracker y = new TurnTracker();
        y.come(0, 20, 2, 1);
        y.come(1, 10, 2, 1);
        y.begin();
        y.curse(1, 2, 1);
        y.curse(0, 3, 5);
        Check.due("0 falls", y.count(3), 0);
        y.come(0, 30, 1, 1);
        y.end();
        y.curse(1, 3, 1);
        Check.due("1 falls, 2 is alone in the round 4", y.count(1), 4);
        Check.due("turn", y.count(2), 2);
    }
}
