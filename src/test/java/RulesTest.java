import java.io.IOException;
import java.lang.reflect.Field;
import java.lang.reflect.Method;
import java.lang.reflect.Modifier;
import java.nio.file.Files;
import java.nio.file.Path;
import java.util.ArrayList;
import java.util.HashSet;
import java.util.List;
import java.util.Set;
import java.util.regex.Matcher;
import java.util.regex.Pattern;

/** Those rules of ../shared/LANGUAGE.md that can be seen by counting and by looking for words. */
public final class RulesTest {
    private static final Check CHECK = new Check("RulesTest");
    private static final String[] FORBIDDEN = {"->", "::", "finally", "synchronized", "assert ", "Exact(", "System.out",
        "Thread", "java.util.Random", "currentTime", "nanoTime", "getMessage", "double ", "float ", "Object ", "+ \"",
        "\" +"};
    private static final Set<String> LIBRARY = Set.of("Arrays.fill", "Math.max", "Math.min", "Integer.highestOneBit",
        "Long.numberOfLeadingZeros", "System.arraycopy");

    public static void main(String[] args) throws IOException {
        List<String> lines = Files.readAllLines(Path.of("src/main/java/CubeStore.java"));
        words(lines);
        methods(lines);
        classes();
        CHECK.end();
    }

    private static void words(List<String> lines) {
        for (String line : lines) {
            if (line.startsWith("import")) {
                CHECK.due(line, line.equals("import java.util.Arrays;"), true);
            }
            for (String word : FORBIDDEN) {
                CHECK.due("<" + word + "> in " + line, line.contains(word), false);
            }
            if (line.contains("throw new")) {
                CHECK.due(line, line.matches(".*throw new Illegal(State|Argument)Exception\\(\\);"), true);
            }
            Matcher calls = Pattern.compile("\\b(Arrays|Math|Integer|Long|System|String)\\.\\w+").matcher(line);
            while (calls.find()) {
                CHECK.due(calls.group(), LIBRARY.contains(calls.group()), true);
            }
        }
    }

    private static void methods(List<String> lines) {
        Pattern head = Pattern.compile("( {4}| {8})(?:\\w+ )*[\\w\\[\\]]+ \\w+\\((.*)\\)[\\w ,]* \\{");
        for (int i = 0; i < lines.size(); i++) {
            Matcher method = head.matcher(lines.get(i));
            if (!method.matches()) {
                continue;
            }
            CHECK.due("parameters of " + lines.get(i), method.group(2).split(",").length <= 7, true);
            int end = i;
            while (!lines.get(end).equals(method.group(1) + "}")) {
                end++;
            }
            CHECK.due("lines of " + lines.get(i), end - i < 60, true);
        }
    }

    private static void classes() {
        Set<String> face = new HashSet<>();
        for (Method m : CubeStore.class.getMethods()) {
            if (m.getDeclaringClass() == CubeStore.class) {
                face.add(m.getName());
            }
        }
        List<Class<?>> all = new ArrayList<>(List.of(CubeStore.class.getDeclaredClasses()));
        for (Class<?> inner : all) {
            for (Method m : inner.getDeclaredMethods()) {
                CHECK.due("a name of the face: " + m, face.contains(m.getName()), false);
            }
        }
        all.add(CubeStore.class);
        CHECK.due("classes", all.size() <= 12, true);
        for (Class<?> type : all) {
            int fields = 0;
            for (Field f : type.getDeclaredFields()) {
                if (Modifier.isStatic(f.getModifiers())) {
                    boolean constant = f.getType().isPrimitive() || f.getType() == String.class;
                    CHECK.due("a constant: " + f, constant && Modifier.isFinal(f.getModifiers()), true);
                } else {
                    fields++;
                }
            }
            CHECK.due("fields of " + type + ": " + fields, fields <= 20, true);
        }
    }
}
