import java.util.ArrayList;
import java.util.List;

/** Promise 16: undo, and what is saved for it. */
public final class UndoTest {
    public static void main(String[] args) {
        eachUndoableCall();
        atMostSix();
        allIsRestored();
        theBufferIsNot();
        comeAfterUndo();
        Check.finish();
    }

    private static void dueUndone(String what, TurnTracker x, Runnable call) {
        int saved = x.count(12);
        long before = hashOfLooks(x);
        call.run();
        Check.due(what + ": saved", x.count(12), Math.min(saved + 1, 6));
        Check.due(what + ": undo", x.undo(), Math.min(saved, 5));
        Check.due(what + ": looks", hashOfLooks(x), before);
        call.run();
    }

    /** All looks but the number of saved states. */
    private static long hashOfLooks(TurnTracker x) {
        long hash = 7;
        for (int what = 0; what <= 11; what++) {
            hash = 31 * hash + x.count(what);
        }
        for (int fighter = 0; fighter < x.count(0); fighter++) {
            for (int what = 0; what <= 13; what++) {
                hash = 31 * hash + x.fighter(fighter, what);
            }
            for (int what = 0; what <= 3; what++) {
                hash = 31 * hash + x.readied(fighter, what);
            }
        }
        for (int place = 0; place <= 10; place++) {
            hash = 31 * hash + x.inRow(place);
        }
        return hash;
    }

    private static void eachUndoableCall() {
        TurnTracker x = new TurnTracker();
        dueUndone("come", x, () -> x.come(0, 20, 30, 5));
        dueUndone("come", x, () -> x.come(1, 10, 30, 5));
        dueUndone("come", x, () -> x.come(0, 15, 30, 5));
        dueUndone("begin", x, x::begin);
        dueUndone("step", x, () -> x.step(3));
        dueUndone("delay", x, x::delay);
        dueUndone("comeIn", x, () -> x.comeIn(2));
        dueUndone("step", x, () -> x.step(6));
        dueUndone("end", x, x::end);
        dueUndone("step", x, () -> x.step(5));
        dueUndone("strike", x, () -> x.strike(0));
        dueUndone("step", x, () -> x.step(3));
        dueUndone("ready", x, () -> x.ready(0, 1, -1, 3));
        dueUndone("curse", x, () -> x.curse(0, 3, 3));
        dueUndone("help", x, () -> x.help(0));
        dueUndone("begin anew", x, x::begin);
        dueUndone("run of none", x, () -> {
            Check.type(x, "s9");
            x.run();
        });
        dueUndone("run", x, () -> {
            Check.type(x, "e;w;e;m6");
            x.run();
        });
    }

    private static void atMostSix() {
        TurnTracker x = new TurnTracker();
        List<Long> hashes = new ArrayList<>();
        for (int i = 0; i < 10; i++) {
            hashes.add(hashOfLooks(x));
            x.come(i % 2, 4 * i, 10 + i, 1 + i);
            Check.due("saved", x.count(12), Math.min(i + 1, 6));
        }
        for (int i = 9; i >= 4; i--) {
            Check.due("undo", x.undo(), i - 4);
            Check.due("saved", x.count(12), i - 4);
            Check.due("state " + i, hashOfLooks(x), hashes.get(i));
        }
        Check.dueThrow(x, "the seventh undo", Check.STATE, x::undo);
        Check.due("fighters", x.count(0), 4);
        x.begin();
        Check.due("undo of begin", x.undo(), 0);
        Check.due("round", x.count(1), 0);
    }

    private static void allIsRestored() {
        TurnTracker x = Check.duel(20, 5, 20, 5);
        x.ready(0, 1, -1, 0);
        int turns = x.count(9);
        x.strike(0);
        Check.due("acts", x.count(7), 6);
        x.undo();
        Check.due("acts", x.count(7), 4);
        Check.due("turns", x.count(9), turns);
        Check.due("readied again", x.readied(0, 1), 1);
        Check.due("initiative", x.fighter(0, 1), 20);
        Check.due("taken", x.fighter(0, 13), 0);
        Check.due("life", x.fighter(1, 2), 20);
        Check.due("turn", x.count(2), 1);
        Check.due("strike again", x.strike(0), 5);
        TurnTracker y = Check.duel(20, 5, 5, 5);
        y.ready(0, 1, -1, 0);
        y.strike(0);
        Check.due("failed", y.count(8), 1);
        y.undo();
        Check.due("failed no more", y.count(8), 0);
    }

    private static void theBufferIsNot() {
        TurnTracker x = Check.duel(20, 5, 20, 5);
        Check.type(x, "e;e");
        x.end();
        x.undo();
        Check.due("undo leaves the buffer", x.firstError(), 3);
        Check.due("run", x.run(), 2);
        x.undo();
        Check.due("run's buffer stays clear", x.clearBuffer(), 0);
        Check.due("both orders are undone", x.count(1), 3);
        Check.type(x, "e;");
        int saved = x.count(12);
        Check.dueThrow(x, "run of half a text", Check.ARGUMENT, x::run);
        Check.due("saves nothing", x.count(12), saved);
    }

    private static void comeAfterUndo() {
        TurnTracker x = Check.duel(20, 5, 20, 5);
        x.come(1, 15, 9, 3);
        x.curse(2, 2, 5);
        x.end();
        x.strike(0);
        x.undo();
        x.undo();
        x.undo();
        x.undo();
        Check.due("come again", x.come(0, 5, 7, 2), 2);
        int[] due = {0, 5, 7, 7, 2, 0, 2, 0, 0, 0, 0, 0, 0, 0};
        for (int what = 0; what < due.length; what++) {
            Check.due("anew: fighter(2, " + what + ")", x.fighter(2, what), due[what]);
        }
        Check.due("nothing readied", x.readied(2, 1), -1);
    }
}
