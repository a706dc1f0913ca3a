import java.lang.reflect.Constructor;
import java.lang.reflect.Field;
import java.lang.reflect.Method;
import java.lang.reflect.Modifier;
import java.util.Arrays;
import java.util.Set;
import java.util.TreeSet;
import java.util.stream.Collectors;

/** The public face: every constant, constructor and method of the document, and nothing else that can be seen. */
public final class FaceTest {
    private static final String[] METHODS = {
        "int come(int,int,int,int) throws IllegalArgumentException,IllegalStateException",
        "int begin()",
        "int strike(int) throws IndexOutOfBoundsException,IllegalStateException",
        "int step(int) throws IllegalArgumentException,IllegalStateException",
        "int help(int) throws IndexOutOfBoundsException,IllegalStateException",
        "int curse(int,int,int) throws IndexOutOfBoundsException,IllegalArgumentException,IllegalStateException",
        "int delay() throws IllegalStateException",
        "int ready(int,int,int,int) throws IndexOutOfBoundsException,IllegalArgumentException,IllegalStateException",
        "int end() throws IllegalStateException",
        "int comeIn(int) throws IndexOutOfBoundsException,IllegalStateException",
        "int append(int) throws IllegalArgumentException,IllegalStateException",
        "int clearBuffer()",
        "int firstError()",
        "int run() throws IllegalArgumentException",
        "int undo() throws IllegalStateException",
        "int fighter(int,int) throws IndexOutOfBoundsException,IllegalArgumentException",
        "int readied(int,int) throws IndexOutOfBoundsException,IllegalArgumentException",
        "int inRow(int) throws IllegalArgumentException",
        "int count(int) throws IllegalArgumentException",
        "int ifDone(int,int,int) throws IllegalArgumentException",
        "int ifEnded(int) throws IllegalArgumentException",
        "int bestStrike()",
        "double standing()",
        "long digest()",
    };

    public static void main(String[] args) throws ReflectiveOperationException {
        theClass();
        theConstant();
        theConstructor();
        theMethods();
        theClassesInside();
        Check.finish();
    }

    private static void theClass() {
        Check.dueText("class", TurnTracker.class.toGenericString(), "public final class TurnTracker");
        Check.dueText("above it", TurnTracker.class.getSuperclass().getName(), "java.lang.Object");
        Check.due("interfaces", TurnTracker.class.getInterfaces().length, 0);
    }

    private static void theConstant() throws ReflectiveOperationException {
        Check.dueText("NONE", TurnTracker.class.getField("NONE").toString(),
                "public static final int TurnTracker.NONE");
        Check.due("NONE", TurnTracker.class.getField("NONE").getInt(null), -1);
        for (Field field : TurnTracker.class.getDeclaredFields()) {
            boolean hidden = Modifier.isPrivate(field.getModifiers());
            Check.dueText("hidden: " + field.getName(), hidden + "", !field.getName().equals("NONE") + "");
        }
    }

    private static void theConstructor() {
        Constructor<?>[] all = TurnTracker.class.getDeclaredConstructors();
        Check.due("constructors", all.length, 1);
        Check.dueText("constructor", all[0].toString(), "public TurnTracker()");
    }

    private static void theMethods() {
        Set<String> seen = new TreeSet<>();
        Set<String> seenNames = new TreeSet<>();
        for (Method method : TurnTracker.class.getDeclaredMethods()) {
            if (!Modifier.isPrivate(method.getModifiers())) {
                seen.add(told(method));
                seenNames.add(method.getName());
                Check.due(method.getName() + " is public, and nothing else", method.getModifiers(), Modifier.PUBLIC);
            }
        }
        Check.dueText("methods", String.join("\n", seen), String.join("\n", new TreeSet<>(Arrays.asList(METHODS))));
        for (Method method : TurnTracker.class.getDeclaredMethods()) {
            boolean hidden = Modifier.isPrivate(method.getModifiers());
            Check.dueText("the name of " + method + " is also public",
                    (hidden && seenNames.contains(method.getName())) + "", "false");
        }
    }

    private static String told(Method method) {
        String thrown = Arrays.stream(method.getExceptionTypes()).map(Class::getSimpleName)
                .collect(Collectors.joining(","));
        String arguments = Arrays.stream(method.getParameterTypes()).map(Class::getSimpleName)
                .collect(Collectors.joining(","));
        return method.getReturnType().getSimpleName() + " " + method.getName() + "(" + arguments + ")"
                + (thrown.isEmpty() ? "" : " throws " + thrown);
    }

    private static void theClassesInside() {
        for (Class<?> inside : TurnTracker.class.getDeclaredClasses()) {
            Check.dueText("static: " + inside, Modifier.isStatic(inside.getModifiers()) + "", "true");
            Check.dueText("seen: " + inside, (Modifier.isPublic(inside.getModifiers())
                    || Modifier.isProtected(inside.getModifiers())) + "", "false");
            for (Field field : inside.getDeclaredFields()) {
                boolean changes = Modifier.isStatic(field.getModifiers()) && !Modifier.isFinal(field.getModifiers());
                Check.dueText("shared and not final: " + field, changes + "", "false");
            }
        }
    }
}
