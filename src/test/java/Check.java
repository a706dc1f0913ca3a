/** Compares answers with those that are due; a test ends with finish(). */
final class Check {
    static final Class<?> BOUNDS = IndexOutOfBoundsException.class;
    static final Class<?> ARGUMENT = IllegalArgumentException.class;
    static final Class<?> STATE = IllegalStateException.class;

    private static int wrong = 0;
    private static int checked = 0;

    private Check() {
    }

    static void due(String what, long got, long want) {
        checked++;
        if (got != want) {
            tell(what + " answered " + got + ", due is " + want);
        }
    }

    static void dueShare(String what, double got, double want) {
        checked++;
        if (Double.doubleToLongBits(got) != Double.doubleToLongBits(want)) {
            tell(what + " answered " + got + ", due is " + want);
        }
    }

    static void dueText(String what, String got, String want) {
        checked++;
        if (!got.equals(want)) {
            tell(what + " answered " + got + ", due is " + want);
        }
    }

    /** The call has to throw exactly this exception, and to change nothing. */
    static void dueThrow(TurnTracker x, String what, Class<?> want, Runnable call) {
        checked++;
        long before = x.digest();
        try {
            call.run();
            tell(what + " threw nothing, due is " + want.getSimpleName());
        } catch (RuntimeException e) {
            if (e.getClass() != want) {
                tell(what + " threw " + e + ", due is " + want.getSimpleName());
            }
        }
        due("digest after the exception of " + what, x.digest(), before);
    }

    static void tell(String line) {
        wrong++;
        if (wrong <= 50) {
            System.out.println(line);
        }
    }

    static void finish() {
        System.out.println(wrong == 0 ? checked + " answers are as due" : wrong + " answers are not as due");
        if (wrong != 0) {
            System.exit(1);
        }
    }

    /** Two foes next to each other, with the fighter 0 having the turn. */
    static TurnTracker duel(int lifeOfFirst, int forceOfFirst, int lifeOfSecond, int forceOfSecond) {
        TurnTracker x = new TurnTracker();
        x.come(0, 20, lifeOfFirst, forceOfFirst);
        x.come(1, 10, lifeOfSecond, forceOfSecond);
        x.begin();
        x.step(3);
        x.step(6);
        x.step(4);
        x.step(6);
        return x;
    }

    static void type(TurnTracker x, String text) {
        for (int i = 0; i < text.length(); i++) {
            x.append(text.charAt(i));
        }
    }

    static void dueRow(String what, TurnTracker x, int... row) {
        for (int place = 0; place < row.length; place++) {
            due(what + ": inRow(" + place + ")", x.inRow(place), row[place]);
            due(what + ": place of " + row[place], x.fighter(row[place], 6), place);
        }
        due(what + ": inRow(" + row.length + ")", x.inRow(row.length), TurnTracker.NONE);
    }
}
