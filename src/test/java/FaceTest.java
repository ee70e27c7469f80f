import java.lang.reflect.Constructor;
import java.lang.reflect.Field;
import java.lang.reflect.Method;
import java.lang.reflect.Modifier;
import java.util.Set;
import java.util.TreeSet;

/** The class shows the document's face and no other member. */
public final class FaceTest {
    private static final String[] FACE = {
        "int type(int)", "int clearText()", "int readSequence()", "int errorKind()", "int steps()",
        "int moves(int)", "int direction(int,int)", "int pause(int)", "int clashes()", "int clash(int,int)",
        "int groups()", "int cut(int)", "int groupOf(int)", "int valves(int)", "int setMethod(int)",
        "int setStroke(int,int)", "boolean setStart(boolean)", "boolean setFault(int,int,boolean)", "int rest()",
        "int ticks(int)", "int time()", "int position(int)", "boolean isOut(int)", "boolean sensor(int,int)",
        "int timer(int)", "int active()", "int commands(int)", "int events()", "int eventTime(int)",
        "int eventMove(int)", "int rightEvents()", "int cycles()", "int quiet()", "boolean works(int)",
        "int cycleTime(int)", "int cheapest()", "int effect(int,int,int)", "int suspect(int)", "long fingerprint()",
    };

    public static void main(String[] args) {
        Set<String> names = new TreeSet<>();
        Set<String> shown = new TreeSet<>();
        Set<String> due = new TreeSet<>();
        for (String line : FACE) {
            due.add(line);
        }
        for (Method method : SequenceBench.class.getDeclaredMethods()) {
            if (!Modifier.isPrivate(method.getModifiers())) {
                shown.add(written(method));
                names.add(method.getName());
                Script.due(method + " is public", Modifier.isPublic(method.getModifiers()), true);
            }
        }
        Script.due("the methods of the face", shown, due);
        for (Method method : SequenceBench.class.getDeclaredMethods()) {
            if (Modifier.isPrivate(method.getModifiers())) {
                Script.due("a private " + method.getName() + " beside a public one",
                        names.contains(method.getName()), false);
            }
        }
        lookAtTheRest(names);
        Script.end();
    }

    private static String written(Method method) {
        StringBuilder line = new StringBuilder();
        line.append(method.getReturnType().getName()).append(' ').append(method.getName()).append('(');
        String between = "";
        for (Class<?> parameter : method.getParameterTypes()) {
            line.append(between).append(parameter.getName());
            between = ",";
        }
        return line.append(')').toString();
    }

    private static void lookAtTheRest(Set<String> names) {
        Script.due("public and final", SequenceBench.class.getModifiers(), Modifier.PUBLIC | Modifier.FINAL);
        Constructor<?>[] constructors = SequenceBench.class.getDeclaredConstructors();
        Script.due("constructors", constructors.length, 1);
        Script.due("public constructor", Modifier.isPublic(constructors[0].getModifiers()), true);
        Script.due("parameters of the constructor", constructors[0].getParameterCount(), 0);
        for (Field field : SequenceBench.class.getDeclaredFields()) {
            Script.due(field + " is private", Modifier.isPrivate(field.getModifiers()), true);
        }
        for (Class<?> inside : SequenceBench.class.getDeclaredClasses()) {
            for (Method method : inside.getDeclaredMethods()) {
                Script.due(method + " bears a name of the face", names.contains(method.getName()), false);
            }
            Script.due(inside + " is static", Modifier.isStatic(inside.getModifiers()), true);
            Script.due(inside + " is not public", Modifier.isPublic(inside.getModifiers()), false);
        }
    }
}
