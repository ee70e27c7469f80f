import java.lang.reflect.Constructor;
import java.lang.reflect.Field;
import java.lang.reflect.Method;
import java.lang.reflect.Modifier;
import java.util.Set;
import java.util.TreeSet;

/** The class shows the document's face, 'The public face', and no other member. */
public final class FaceTest {
    private static final String IAE = " throws IllegalArgumentException";
    private static final String ISE = " throws IllegalStateException";
    private static final String INDEX = " throws IndexOutOfBoundsException";
    private static final String IAE_ISE = IAE + ", IllegalStateException";
    private static final String INDEX_IAE = INDEX + ", IllegalArgumentException";

    /** What follows "public" in the document, without the names of the parameters. */
    private static final Set<String> FACE = Set.of(
        "int type(int)" + IAE_ISE, "int clearText()", "int readSequence()", "int errorKind()", "int steps()",
        "int moves(int)" + INDEX, "int direction(int, int)" + INDEX, "int pause(int)" + INDEX,
        "int clashes()" + ISE, "int clash(int, int)" + INDEX, "int groups()" + ISE, "int cut(int)" + INDEX,
        "int groupOf(int)" + INDEX, "int valves(int)" + IAE_ISE, "int setMethod(int)" + IAE,
        "int setStroke(int, int)" + INDEX_IAE, "boolean setStart(boolean)",
        "boolean setFault(int, int, boolean)" + INDEX_IAE, "int rest()", "int ticks(int)" + IAE_ISE, "int time()",
        "int position(int)" + INDEX, "boolean isOut(int)" + INDEX, "boolean sensor(int, int)" + INDEX,
        "int timer(int)" + INDEX, "int active()", "int commands(int)" + INDEX, "int events()",
        "int eventTime(int)" + INDEX, "int eventMove(int)" + INDEX, "int rightEvents()", "int cycles()",
        "int quiet()", "boolean works(int)" + IAE_ISE, "int cycleTime(int)" + IAE_ISE, "int cheapest()" + ISE,
        "int effect(int, int, int)" + INDEX_IAE + ", IllegalStateException",
        "int suspect(int)" + INDEX + ", IllegalStateException", "long fingerprint()");

    public static void main(String[] args) {
        Set<String> names = new TreeSet<>();
        Set<String> shown = new TreeSet<>();
        for (Method method : SequenceBench.class.getDeclaredMethods()) {
            if (!Modifier.isPrivate(method.getModifiers())) {
                shown.add(written(method));
                names.add(method.getName());
                Script.due(method + " is public and no more", method.getModifiers(), Modifier.PUBLIC);
            }
        }
        for (String line : shown) {
            Script.due("shown and in the face: " + line, FACE.contains(line), true);
        }
        for (String line : FACE) {
            Script.due("in the face and shown: " + line, shown.contains(line), true);
        }
        Script.due("one method of each name", names.size(), FACE.size());
        for (Method method : SequenceBench.class.getDeclaredMethods()) {
            if (Modifier.isPrivate(method.getModifiers())) {
                Script.due("a private " + method.getName() + " beside a public one",
                        names.contains(method.getName()), false);
            }
        }
        lookAtTheClass();
        lookInside(names);
        Script.end();
    }

    private static String written(Method method) {
        String line = method.getReturnType().getName() + " " + method.getName() + "("
                + joined(method.getParameterTypes()) + ")";
        String thrown = joined(method.getExceptionTypes());
        return thrown.isEmpty() ? line : line + " throws " + thrown;
    }

    private static String joined(Class<?>[] types) {
        StringBuilder names = new StringBuilder();
        for (Class<?> type : types) {
            names.append(names.length() == 0 ? "" : ", ").append(type.getSimpleName());
        }
        return names.toString();
    }

    private static void lookAtTheClass() {
        Script.due("public and final", SequenceBench.class.getModifiers(), Modifier.PUBLIC | Modifier.FINAL);
        Script.due("it extends", SequenceBench.class.getSuperclass(), Object.class);
        Script.due("interfaces", SequenceBench.class.getInterfaces().length, 0);
        Script.due("package", SequenceBench.class.getPackageName(), "");
        Constructor<?>[] constructors = SequenceBench.class.getDeclaredConstructors();
        Script.due("constructors", constructors.length, 1);
        Script.due("public constructor", constructors[0].getModifiers(), Modifier.PUBLIC);
        Script.due("parameters of the constructor", constructors[0].getParameterCount(), 0);
        Script.due("exceptions of the constructor", constructors[0].getExceptionTypes().length, 0);
        for (Field field : SequenceBench.class.getDeclaredFields()) {
            Script.due(field + " is private", Modifier.isPrivate(field.getModifiers()), true);
        }
    }

    private static void lookInside(Set<String> names) {
        for (Class<?> inside : SequenceBench.class.getDeclaredClasses()) {
            for (Method method : inside.getDeclaredMethods()) {
                Script.due(method + " bears a name of the face", names.contains(method.getName()), false);
            }
            Script.due(inside + " is static", Modifier.isStatic(inside.getModifiers()), true);
            Script.due(inside + " is not public", Modifier.isPublic(inside.getModifiers()), false);
        }
    }
}
