import java.io.IOException;
import java.lang.reflect.Executable;
import java.lang.reflect.Field;
import java.lang.reflect.Modifier;
import java.nio.file.Files;
import java.nio.file.Path;
import java.util.ArrayList;
import java.util.List;
import java.util.Set;
import java.util.regex.Matcher;
import java.util.regex.Pattern;

/** What can be seen of the rules of LANGUAGE.md in the source and in the class; the titles are the rules. */
public final class LanguageTest {
    private static final Path SOURCE = Path.of("src/main/java/SequenceBench.java");
    private static final Set<String> IMPORTS = Set.of("java.util.Arrays", "java.util.ArrayList", "java.util.List",
            "java.util.Iterator", "java.util.NoSuchElementException");
    /** Of the library, what the class may name with a point behind it. */
    private static final Set<String> LIBRARY = Set.of("System.arraycopy", "Arrays.copyOf", "Arrays.copyOfRange",
            "Arrays.fill", "Math.min", "Math.max", "Math.abs", "Math.floorDiv", "Math.floorMod", "Integer.bitCount",
            "Integer.compare", "Integer.min", "Integer.max", "Long.compare", "List.of");
    /** The three exceptions of the document, with a written text. */
    private static final String THROWN = "new (IllegalState|IllegalArgument|IndexOutOfBounds)Exception\\(\"\"\\)";
    private static final String[] NEVER = {"->", "::", "finally", "synchronized", "assert", "volatile", "protected",
        "while (true)", "for (;;)", "getMessage", "hashCode", "toString", "double", "float", "package", "native",
        "Thread", "Random", "Scanner"};

    public static void main(String[] args) throws IOException {
        String source = Files.readString(SOURCE);
        String code = withoutComments(source);
        Script.due("one file", SOURCE.getParent().toFile().list().length, 1);
        Script.due("rule 4: signs from 1 to 127", source.chars().allMatch(c -> c > 0 && c < 128), true);
        for (String word : NEVER) {
            Script.due("no " + word, contains(code, word), false);
        }
        for (String found : all("import (?:static )?([\\w.*]+);", code)) {
            Script.due("rule 4: import " + found, IMPORTS.contains(found), true);
        }
        for (String found : all("\\b((?:System|Arrays|Math|Integer|Long|List|String)\\.\\w+)", code)) {
            Script.due("rule 4: " + found, LIBRARY.contains(found), true);
        }
        exceptions(code);
        lengths(code);
        classes();
        Script.end();
    }

    /** Without comments, and with empty texts, so that no word of them counts. */
    private static String withoutComments(String source) {
        String plain = source.replaceAll("\"[^\"\n]*\"", "\"\"");
        return plain.replaceAll("(?s)/\\*.*?\\*/", "").replaceAll("//[^\n]*", "");
    }

    private static boolean contains(String code, String word) {
        boolean letters = Character.isLetter(word.charAt(0));
        return Pattern.compile((letters ? "\\b" : "") + Pattern.quote(word)).matcher(code).find();
    }

    private static List<String> all(String pattern, String code) {
        List<String> found = new ArrayList<>();
        Matcher matcher = Pattern.compile(pattern).matcher(code);
        while (matcher.find()) {
            found.add(matcher.group(1));
        }
        return found;
    }

    private static void exceptions(String code) {
        List<String> thrown = all("\\bthrow\\b([^;]*);", code);
        Script.due("rule 6: there are throws", thrown.isEmpty(), false);
        for (String what : thrown) {
            Script.due("rule 6: throw" + what, what.trim().matches(THROWN), true);
        }
        Script.due("nothing that the machine throws is caught", contains(code, "catch"), false);
    }

    private static void lengths(String code) {
        Matcher head = Pattern.compile("\n +[\\w<>\\[\\]. ]+\\([^;{}()]*\\)[\\w,\\s]*\\{").matcher(code);
        int methods = 0;
        while (head.find()) {
            if (head.group().matches("(?s)\\s*(if|for|while|switch|else|\\} else).*")) {
                continue;
            }
            methods++;
            String body = code.substring(head.end(), closing(code, head.end()));
            Script.due("rule 11: some sixty lines," + head.group(), body.lines().count() <= 60, true);
        }
        Script.due("the methods were found", methods > 60, true);
    }

    private static int closing(String code, int from) {
        int open = 1;
        int at = from;
        while (open > 0 && at < code.length()) {
            open += code.charAt(at) == '{' ? 1 : code.charAt(at) == '}' ? -1 : 0;
            at++;
        }
        return at;
    }

    private static void classes() {
        List<Class<?>> all = new ArrayList<>(List.of(SequenceBench.class.getDeclaredClasses()));
        all.add(SequenceBench.class);
        Script.due("rule 11: at most some twelve classes", all.size() <= 12, true);
        for (Class<?> each : all) {
            int own = 0;
            for (Field field : each.getDeclaredFields()) {
                boolean shared = Modifier.isStatic(field.getModifiers());
                own += shared ? 0 : 1;
                Script.due("rule 5: " + field, !shared || Modifier.isFinal(field.getModifiers()), true);
            }
            Script.due("rule 11: some twenty fields, " + each, own <= 20, true);
            List<Executable> methods = new ArrayList<>(List.of(each.getDeclaredMethods()));
            methods.addAll(List.of(each.getDeclaredConstructors()));
            for (Executable method : methods) {
                Script.due("rule 11: at most seven parameters, " + method, method.getParameterCount() <= 7, true);
            }
        }
    }
}
