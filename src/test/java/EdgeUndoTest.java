import java.util.ArrayList;
import java.util.List;

/** The boundary cases of 'Undo' and 'Exceptions' and of the promise 16: undo. */
public final class EdgeUndoTest {
    public static void main(String[] args) {
        nothingToUndo();
        fromOneToSix();
        theOldestIsDroppedFirst();
        savedAgainBehindAnUndo();
        savedAlsoIfNothingChanges();
        eachUndoableCallSavesOnce();
        otherCallsSaveNothing();
        refusedCallsSaveNothing();
        refusedCallsLeaveTheSavedStates();
        comingIsUndone();
        theBeginningIsUndone();
        theLastFallIsUndone();
        eachPartOfAFighterIsUndone();
        theBufferIsNeitherSavedNorRestored();
        undoIsNotSaved();
        Check.finish();
    }

    private static void nothingToUndo() {
        TurnTracker x = new TurnTracker();
        Check.dueThrow(x, "undo", Check.STATE, x::undo);
        x.append('e');
        Check.dueThrow(x, "undo of an append", Check.STATE, x::undo);
        x.come(0, 1, 1, 1);
        Check.due("undo", x.undo(), 0);
        Check.dueThrow(x, "undo once more", Check.STATE, x::undo);
        Check.due("saved", x.count(12), 0);
    }

    private static void fromOneToSix() {
        for (int calls = 1; calls <= 12; calls++) {
            TurnTracker x = new TurnTracker();
            List<String> states = new ArrayList<>();
            for (int call = 1; call <= calls; call++) {
                states.add(Scene.looks(x));
                if (call <= 4) {
                    x.come(call % 2, 5 * call, 9, 1);
                } else if (call == 5) {
                    x.begin();
                } else {
                    x.end();
                }
                Check.due("saved", x.count(12), Math.min(6, call));
            }
            int saved = Math.min(6, calls);
            for (int undone = 1; undone <= saved; undone++) {
                Check.due("undo", x.undo(), saved - undone);
                Check.due("saved", x.count(12), saved - undone);
                Check.dueText("the state", Scene.looks(x), states.get(calls - undone));
            }
            Check.dueThrow(x, "undo of more", Check.STATE, x::undo);
        }
    }

    private static void theOldestIsDroppedFirst() {
        TurnTracker x = Scene.line(3);
        int round = x.count(1);
        for (int i = 0; i < 7; i++) {
            x.end();
        }
        for (int i = 5; i >= 0; i--) {
            Check.due("undo", x.undo(), i);
        }
        Check.due("the first of the seven stays done", x.count(2), 1);
        Check.due("round", x.count(1), round);
        Check.dueThrow(x, "undo", Check.STATE, x::undo);
    }

    private static void savedAgainBehindAnUndo() {
        TurnTracker x = Scene.line(2);
        List<String> states = new ArrayList<>();
        for (int i = 0; i < 6; i++) {
            states.add(Scene.looks(x));
            x.step(i % 2 == 0 ? 6 : 4);
        }
        x.undo();
        x.undo();
        states.remove(5);
        x.strike(1);
        states.add(Scene.looks(x));
        x.strike(0);
        Check.due("six again, none dropped", x.count(12), 6);
        for (int i = 5; i >= 0; i--) {
            x.undo();
            Check.dueText("state " + i, Scene.looks(x), states.get(i));
        }
        for (int i = 0; i < 8; i++) {
            x.end();
        }
        Check.due("full again", x.count(12), 6);
        Check.due("undo", x.undo(), 5);
    }

    private static void savedAlsoIfNothingChanges() {
        TurnTracker x = new TurnTracker();
        x.begin();
        String before = Scene.looks(x);
        x.begin();
        Check.dueText("begin without fighters changes nothing", Scene.looks(x), before);
        Check.due("saved", x.count(12), 2);
        Check.type(x, "e");
        x.run();
        Check.dueText("run of none changes nothing", Scene.looks(x), before);
        Check.due("saved", x.count(12), 3);
        Check.due("undo", x.undo(), 2);
        Check.due("undo", x.undo(), 1);
        Check.due("undo", x.undo(), 0);
        Check.due("round", x.count(1), 0);
    }

    /** Some undoable calls, each of which is possible with three in a line. */
    private static List<Runnable> undoableCalls(TurnTracker x) {
        List<Runnable> calls = new ArrayList<>();
        calls.add(() -> x.come(0, 20, 9, 1));
        calls.add(x::begin);
        calls.add(() -> x.strike(1));
        calls.add(() -> x.step(5));
        calls.add(() -> x.help(2));
        calls.add(() -> x.curse(1, 0, 5));
        calls.add(x::delay);
        calls.add(() -> x.ready(0, 1, -1, 0));
        calls.add(x::end);
        calls.add(() -> {
            Check.type(x, "e;w;e");
            x.run();
        });
        return calls;
    }

    private static void eachUndoableCallSavesOnce() {
        for (int call = 0; call < 10; call++) {
            TurnTracker x = Scene.line(3);
            x.undo();
            x.undo();
            x.step(5);
            x.step(5);
            x.undo();
            x.undo();
            x.begin();
            Check.due("saved", x.count(12), 5);
            String before = Scene.looks(x);
            undoableCalls(x).get(call).run();
            Check.due("saved by the call " + call, x.count(12), 6);
            Check.due("undo", x.undo(), 5);
            Check.dueText("undone: the call " + call, Scene.looks(x), before);
        }
        TurnTracker y = Scene.line(3);
        y.delay();
        y.undo();
        y.undo();
        y.delay();
        String before = Scene.looks(y);
        Check.due("saved", y.count(12), 5);
        y.delay();
        y.comeIn(0);
        Check.due("saved", y.count(12), 6);
        y.undo();
        y.undo();
        Check.dueText("comeIn and delay are undone", Scene.looks(y), before);
    }

    private static void otherCallsSaveNothing() {
        TurnTracker x = new TurnTracker();
        x.come(0, 20, 9, 1);
        x.come(1, 10, 9, 1);
        x.begin();
        x.append('e');
        x.firstError();
        x.clearBuffer();
        x.fighter(0, 0);
        x.readied(0, 0);
        x.inRow(0);
        x.count(0);
        x.ifDone(1, 2, 3);
        x.ifDone(3, 1, 2);
        x.ifEnded(40);
        x.bestStrike();
        x.standing();
        x.digest();
        Check.due("saved", x.count(12), 3);
        Check.due("undo of begin", x.undo(), 2);
        Check.due("round", x.count(1), 0);
        Check.due("undo of come", x.undo(), 1);
        Check.due("fighters", x.count(0), 1);
    }

    /** Calls that throw, whoever has the turn. */
    private static List<Runnable> refusedCalls(TurnTracker x) {
        List<Runnable> calls = new ArrayList<>();
        int n = x.count(0);
        int turn = x.count(2);
        calls.add(() -> x.come(2, 0, 1, 1));
        calls.add(() -> x.come(0, 41, 1, 1));
        calls.add(() -> x.come(0, 0, 100, 1));
        calls.add(() -> x.come(0, 0, 1, 21));
        for (int goal : new int[] {-1, n, turn}) {
            calls.add(() -> x.strike(goal));
            calls.add(() -> x.help(goal));
            calls.add(() -> x.curse(goal, 0, 1));
            calls.add(() -> x.ready(0, goal, -1, 0));
            calls.add(() -> x.comeIn(goal));
        }
        calls.add(() -> x.curse(0, 4, 1));
        calls.add(() -> x.curse(0, 0, 6));
        calls.add(() -> x.ready(1, 0, -1, 0));
        calls.add(() -> x.ready(0, 0, turn, 4));
        calls.add(() -> x.ready(0, 0, n, 0));
        calls.add(() -> x.step(-1));
        calls.add(() -> x.step(10));
        calls.add(() -> x.append(32));
        calls.add(() -> x.append(127));
        calls.add(x::run);
        calls.add(() -> x.fighter(n, 0));
        calls.add(() -> x.fighter(0, 14));
        calls.add(() -> x.readied(-1, 0));
        calls.add(() -> x.readied(0, 4));
        calls.add(() -> x.inRow(-1));
        calls.add(() -> x.count(13));
        calls.add(() -> x.ifDone(4, 0, 0));
        calls.add(() -> x.ifDone(0, n, 0));
        calls.add(() -> x.ifDone(1, 10, 0));
        calls.add(() -> x.ifEnded(41));
        return calls;
    }

    private static void dueAllThrow(TurnTracker x) {
        int number = 0;
        for (Runnable call : refusedCalls(x)) {
            boolean thrown = false;
            try {
                call.run();
            } catch (IndexOutOfBoundsException | IllegalArgumentException | IllegalStateException e) {
                thrown = true;
            }
            Check.due("refused: the call " + number, thrown ? 1 : 0, 1);
            number++;
        }
    }

    private static void refusedCallsSaveNothing() {
        TurnTracker empty = new TurnTracker();
        Check.dueThrow(empty, "undo", Check.STATE, empty::undo);
        TurnTracker x = new TurnTracker();
        x.come(0, 20, 9, 1);
        x.begin();
        dueAllThrow(x);
        Check.due("saved", x.count(12), 2);
        Check.due("undo", x.undo(), 1);
        Check.due("round", x.count(1), 0);
    }

    private static void refusedCallsLeaveTheSavedStates() {
        TurnTracker x = Scene.line(4);
        List<String> states = new ArrayList<>();
        for (int i = 0; i < 6; i++) {
            states.add(Scene.looks(x));
            if (i % 2 == 0) {
                x.delay();
            } else {
                x.ready(0, 0, -1, 3);
            }
        }
        String now = Scene.looks(x);
        dueAllThrow(x);
        Check.dueText("the state", Scene.looks(x), now);
        for (int i = 5; i >= 0; i--) {
            Check.due("undo", x.undo(), i);
            Check.dueText("state " + i, Scene.looks(x), states.get(i));
            dueAllThrow(x);
            Check.dueText("state " + i + " still", Scene.looks(x), states.get(i));
        }
        Check.dueThrow(x, "undo", Check.STATE, x::undo);
    }

    private static void comingIsUndone() {
        TurnTracker x = new TurnTracker();
        x.come(0, 20, 9, 1);
        x.come(1, 30, 9, 1);
        Check.due("undo", x.undo(), 1);
        Check.due("fighters", x.count(0), 1);
        Check.dueRow("the row", x, 0);
        Check.dueThrow(x, "fighter(1, 0)", Check.BOUNDS, () -> x.fighter(1, 0));
        Check.dueThrow(x, "readied(1, 0)", Check.BOUNDS, () -> x.readied(1, 0));
        Check.due("life of the side 1", x.count(11), 0);
        Check.due("the number is free again", x.come(0, 10, 5, 5), 1);
        Check.due("side", x.fighter(1, 0), 0);
        TurnTracker y = Scene.line(10);
        y.undo();
        y.undo();
        Check.due("fighters", y.count(0), 10);
        Check.dueThrow(y, "the eleventh", Check.STATE, () -> y.come(0, 20, 9, 1));
    }

    private static void theBeginningIsUndone() {
        TurnTracker x = new TurnTracker();
        x.come(0, 20, 9, 1);
        x.begin();
        x.undo();
        Check.due("round", x.count(1), 0);
        Check.due("turn", x.count(2), -1);
        Check.due("turns", x.count(9), 0);
        Check.dueThrow(x, "end", Check.STATE, x::end);
    }

    private static void theLastFallIsUndone() {
        TurnTracker x = EdgeFightersTest.dying();
        String before = Scene.looks(x);
        x.end();
        x.begin();
        x.undo();
        Check.due("turn", x.count(2), -1);
        x.undo();
        Check.dueText("all stand again", Scene.looks(x), before);
        Check.due("end again", x.end(), -1);
    }

    private static void eachPartOfAFighterIsUndone() {
        TurnTracker x = Scene.line(5);
        x.delay();
        x.ready(2, 3, 2, 3);
        List<String> states = new ArrayList<>();
        states.add(Scene.looks(x));
        x.comeIn(0);
        states.add(Scene.looks(x));
        x.curse(3, 2, 5);
        states.add(Scene.looks(x));
        x.strike(4);
        states.add(Scene.looks(x));
        x.step(8);
        states.add(Scene.looks(x));
        x.curse(3, 3, 2);
        states.add(Scene.looks(x));
        x.begin();
        for (int i = 5; i >= 0; i--) {
            x.undo();
            Check.dueText("state " + i, Scene.looks(x), states.get(i));
        }
    }

    private static void theBufferIsNeitherSavedNorRestored() {
        TurnTracker x = new TurnTracker();
        x.come(0, 20, 9, 1);
        Check.type(x, "e");
        x.begin();
        Check.type(x, ";s");
        x.undo();
        Check.due("the buffer stays", x.firstError(), 3);
        Check.due("clearBuffer", x.clearBuffer(), 3);
        Check.type(x, "e");
        x.begin();
        x.run();
        x.undo();
        Check.due("it stays clear", x.clearBuffer(), 0);
        Check.type(x, "w;!");
        x.undo();
        x.undo();
        Check.due("it stays", x.firstError(), 2);
        Check.dueThrow(x, "undo", Check.STATE, x::undo);
    }

    private static void undoIsNotSaved() {
        TurnTracker x = Scene.line(2);
        x.end();
        x.undo();
        x.undo();
        Check.due("saved", x.count(12), 4);
        Check.due("two calls are undone", x.count(2), 1);
    }
}
