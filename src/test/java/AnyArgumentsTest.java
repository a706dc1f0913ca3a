import java.lang.reflect.InvocationTargetException;
import java.lang.reflect.Method;
import java.lang.reflect.Modifier;
import java.util.Arrays;
import java.util.Comparator;
import java.util.List;

/**
 * All promises: every call with arguments at both ends, just beyond them and far beyond them, in skirmishes of each
 * kind. What it answers or throws, and what it leaves, is compared with PlainModel.
 */
public final class AnyArgumentsTest {
    private static final String SIX_AT_PLACE_5 = "come 0 40 50 9,come 1 38 50 9,come 0 36 40 7,come 1 34 9 3,"
            + "come 0 32 60 20,come 1 30 5 5,begin,step 3,step 6,step 3,step 6,step 3,step 6,"
            + "step 5,step 5,step 5,step 5,step 5,step 5,";
    private static final String[] SCENES = {
        "",
        "come 0 20 30 5,come 1 10 20 7,append 115,append 49",
        // Both have fallen: nobody has the turn.
        "come 0 10 4 5,come 1 20 2 5,begin,curse 0 3 5,curse 1 3 5,append 101",
        // Each condition is there, one delays, two have readied acts, a strike would fail by one, a text is wrong.
        SIX_AT_PLACE_5 + "curse 5 0 2,curse 2 2 5,curse 3 3 4,ready 0 2 2 0,"
            + "curse 1 1 3,delay,ready 0 4 -1 1,ready 0 3 -1 0,append 99,append 48,append 33",
        // One has fallen, one delays, two have readied acts, the last one of the row has the turn.
        SIX_AT_PLACE_5 + "strike 3,delay,ready 0 1 -1 0,ready 2 2 1 1",
        // Ten fighters, six saved states, sixty characters.
        "come 0 5 9 1,come 1 5 9 1,come 0 6 9 1,come 1 6 9 1,come 0 7 9 1,come 1 7 9 1,come 0 8 9 1,come 1 8 9 1,"
            + "come 0 40 99 20,come 1 0 1 1,begin,step 3,curse 7 0 1"
            + ",append 109,append 52,append 59".repeat(19) + ",append 99,append 48,append 51",
    };
    private static final int[] FEW = {Integer.MIN_VALUE, -2, -1, 0, 1, 2, 3, 4, 5, 6, 9, 10, Integer.MAX_VALUE};
    private static final int[] OF_COME = {Integer.MIN_VALUE, -1, 0, 1, 2, 20, 21, 40, 41, 99, 100, Integer.MAX_VALUE};
    private static final List<String> LOOKS = List.of("firstError", "fighter", "readied", "inRow", "count", "ifDone",
            "ifEnded", "bestStrike", "standing", "digest");

    private final String scene;
    private TurnTracker x;
    private PlainModel m;

    private AnyArgumentsTest(String scene) throws ReflectiveOperationException {
        this.scene = scene;
        play();
    }

    public static void main(String[] args) throws ReflectiveOperationException {
        Method[] methods = TurnTracker.class.getDeclaredMethods();
        Arrays.sort(methods, Comparator.comparing(Method::getName));
        for (String scene : SCENES) {
            AnyArgumentsTest test = new AnyArgumentsTest(scene);
            for (Method method : methods) {
                if (Modifier.isPublic(method.getModifiers())) {
                    test.each(method);
                }
            }
        }
        Check.finish();
    }

    private void play() throws ReflectiveOperationException {
        x = new TurnTracker();
        m = new PlainModel();
        for (String call : scene.isEmpty() ? new String[0] : scene.split(",")) {
            String[] words = call.split(" ");
            Object[] arguments = new Object[words.length - 1];
            for (int i = 0; i < arguments.length; i++) {
                arguments[i] = Integer.parseInt(words[i + 1]);
            }
            for (Method method : TurnTracker.class.getDeclaredMethods()) {
                if (method.getName().equals(words[0])) {
                    String answer = outcome(x, method, arguments);
                    Check.dueText("in the scene: " + call, answer, outcome(m, ofModel(method), arguments));
                    Check.dueText("in the scene: " + call + " throws", answer.contains("java.lang.") + "", "false");
                }
            }
        }
        Check.due("digest of the scene", x.digest(), m.digest());
    }

    private static Method ofModel(Method method) throws ReflectiveOperationException {
        return PlainModel.class.getDeclaredMethod(method.getName(), method.getParameterTypes());
    }

    private static String outcome(Object of, Method method, Object[] arguments) throws ReflectiveOperationException {
        try {
            return method.invoke(of, arguments).toString();
        } catch (InvocationTargetException e) {
            return e.getCause().getClass().getName();
        }
    }

    /** Calls a method with all that its arguments may be, each from the same scene. */
    private void each(Method method) throws ReflectiveOperationException {
        int[] values = valuesFor(method);
        Object[] arguments = new Object[method.getParameterCount()];
        int all = 1;
        for (int i = 0; i < arguments.length; i++) {
            all *= values.length;
        }
        long before = x.digest();
        for (int number = 0; number < all; number++) {
            int rest = number;
            for (int i = 0; i < arguments.length; i++) {
                arguments[i] = values[rest % values.length];
                rest /= values.length;
            }
            one(method, arguments);
        }
        Check.due("digest behind the refused calls of " + method.getName(), x.digest(), before);
    }

    private static int[] valuesFor(Method method) {
        if (method.getParameterCount() == 1) {
            int[] many = new int[140];
            for (int i = 0; i < many.length; i++) {
                many[i] = i - 6;
            }
            many[0] = Integer.MIN_VALUE;
            many[1] = Integer.MIN_VALUE + 1;
            many[2] = Integer.MAX_VALUE - 1;
            many[3] = Integer.MAX_VALUE;
            return many;
        }
        if (method.getName().equals("come")) {
            return OF_COME;
        }
        if (method.getParameterCount() == 2) {
            int[] some = Arrays.copyOf(FEW, FEW.length + 3);
            some[FEW.length] = 12;
            some[FEW.length + 1] = 13;
            some[FEW.length + 2] = 14;
            return some;
        }
        return FEW;
    }

    private void one(Method method, Object[] arguments) throws ReflectiveOperationException {
        String call = method.getName() + Arrays.toString(arguments) + " behind " + scene;
        String answer = outcome(x, method, arguments);
        Check.dueText(call, answer, outcome(m, ofModel(method), arguments));
        boolean throwsNow = answer.startsWith("java.lang.");
        if (throwsNow) {
            boolean told = Arrays.stream(method.getExceptionTypes()).anyMatch(e -> e.getName().equals(answer));
            Check.dueText(call + " throws what its clause names", told + "", "true");
        } else if (!LOOKS.contains(method.getName())) {
            Check.due("digest behind " + call, x.digest(), m.digest());
            play();
        }
    }
}
