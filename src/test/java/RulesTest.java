import java.io.IOException;
import java.lang.reflect.Field;
import java.lang.reflect.Method;
import java.lang.reflect.Modifier;
import java.nio.file.Files;
import java.nio.file.Path;
import java.util.ArrayList;
import java.util.HashSet;
import java.util.List;
import java.util.Set;
import java.util.regex.Matcher;
import java.util.regex.Pattern;

/** Those rules of ../shared/LANGUAGE.md that can be seen by counting and by looking for words. */
public final class RulesTest {
    private static final Check CHECK = new Check("RulesTest");
    private static final String[] FORBIDDEN = {"->", "::", "finally", "synchronized", "assert ", "Exact(", "System.out",
        "Thread", "java.util.Random", "currentTime", "nanoTime", "getMessage", "double ", "float ", "Object ", "+ \"",
        "\" +"};
    private static final Set<String> LIBRARY = Set.of("Arrays.fill", "Math.max", "Math.min", "Integer.highestOneBit",
        "Long.numberOfLeadingZeros", "System.arraycopy");

    public static void main(String[] args) throws IOException {
        List<String> lines = Files.readAllLines(Path.of("src/main/java/CubeStore.java"));
        words(lines);
        methods(lines);
        classes();
        List<Written> all = read(lines);
        CHECK.due("methods are found: " + all.size(), all.size() > 150, true);
        memory(all);
        exceptions(all);
        depth(all);
        CHECK.end();
    }

    private static void words(List<String> lines) {
        for (String line : lines) {
            if (line.startsWith("import")) {
                CHECK.due(line, line.equals("import java.util.Arrays;"), true);
            }
            for (String word : FORBIDDEN) {
                CHECK.due("<" + word + "> in " + line, line.contains(word), false);
            }
            if (line.contains("throw new")) {
                CHECK.due(line, line.matches(".*throw new Illegal(State|Argument)Exception\\(\\);"), true);
            }
            Matcher calls = Pattern.compile("\\b(Arrays|Math|Integer|Long|System|String)\\.\\w+").matcher(line);
            while (calls.find()) {
                CHECK.due(calls.group(), LIBRARY.contains(calls.group()), true);
            }
        }
    }

    private static void methods(List<String> lines) {
        Pattern head = Pattern.compile("( {4}| {8})(?:\\w+ )*[\\w\\[\\]]+ \\w+\\((.*)\\)[\\w ,]* \\{");
        for (int i = 0; i < lines.size(); i++) {
            Matcher method = head.matcher(lines.get(i));
            if (!method.matches()) {
                continue;
            }
            CHECK.due("parameters of " + lines.get(i), method.group(2).split(",").length <= 7, true);
            int end = i;
            while (!lines.get(end).equals(method.group(1) + "}")) {
                end++;
            }
            CHECK.due("lines of " + lines.get(i), end - i < 60, true);
        }
    }

    private static void classes() {
        Set<String> face = new HashSet<>();
        for (Method m : CubeStore.class.getMethods()) {
            if (m.getDeclaringClass() == CubeStore.class) {
                face.add(m.getName());
            }
        }
        List<Class<?>> all = new ArrayList<>(List.of(CubeStore.class.getDeclaredClasses()));
        for (Class<?> inner : all) {
            for (Method m : inner.getDeclaredMethods()) {
                CHECK.due("a name of the face: " + m, face.contains(m.getName()), false);
            }
        }
        all.add(CubeStore.class);
        CHECK.due("classes", all.size() <= 12, true);
        for (Class<?> type : all) {
            int fields = 0;
            for (Field f : type.getDeclaredFields()) {
                if (Modifier.isStatic(f.getModifiers())) {
                    boolean constant = f.getType().isPrimitive() || f.getType() == String.class;
                    CHECK.due("a constant: " + f, constant && Modifier.isFinal(f.getModifiers()), true);
                } else {
                    fields++;
                }
            }
            CHECK.due("fields of " + type + ": " + fields, fields <= 20, true);
        }
    }

    /** A method as it is written: its class, its name and its lines without comments. */
    private static final class Written {
        final String type;
        final String name;
        final StringBuilder body = new StringBuilder();
        final List<Written> calls = new ArrayList<>();
        /** How many calls stand open at once from here on; 0 as long as that is not known. */
        int depth;
        boolean isOpen;

        Written(String type, String name) {
            this.type = type;
            this.name = name;
        }

        boolean isConstructor() {
            return type.equals(name);
        }
    }

    private static List<Written> read(List<String> lines) {
        Pattern method = Pattern.compile("( {4}| {8})(?:(?:public|private|static|final) )*(?:[\\w\\[\\]]+ )?(\\w+)\\(.*\\)[\\w ,]* \\{");
        Pattern type = Pattern.compile("( {0,4})(?:\\w+ )*class (\\w+) \\{");
        List<Written> all = new ArrayList<>();
        String now = "";
        Written open = null;
        String end = "";
        for (String line : lines) {
            Matcher newType = type.matcher(line);
            Matcher newMethod = method.matcher(line);
            if (newType.matches()) {
                now = newType.group(2);
            } else if (line.equals("    }") && open == null) {
                now = "CubeStore";
            } else if (open == null && newMethod.matches()) {
                open = new Written(newMethod.group(1).length() == 4 ? "CubeStore" : now, newMethod.group(2));
                end = newMethod.group(1) + "}";
                all.add(open);
            } else if (open != null && line.equals(end)) {
                open = null;
            } else if (open != null && !line.trim().startsWith("//")) {
                open.body.append(line).append('\n');
            }
        }
        return all;
    }

    /** "All memory is made at first": objects and arrays are made by constructors and fields alone. */
    private static void memory(List<Written> all) {
        for (Written m : all) {
            boolean makes = m.body.toString().replace("throw new", "").contains("new ");
            CHECK.due(m.type + "." + m.name + " makes something", makes && !m.isConstructor(), false);
        }
    }

    /** Rule 6: no throw in a constructor, none in the method that holds the try. */
    private static void exceptions(List<Written> all) {
        for (Written m : all) {
            boolean holds = m.body.indexOf("throw ") >= 0;
            CHECK.due("throw in " + m.type + "." + m.name, holds && (m.isConstructor() || m.body.indexOf("try {") >= 0), false);
        }
    }

    /** Rules 8 and 11: there is no recursion, and "calls that are no recursion go at most eight deep". */
    private static void depth(List<Written> all) {
        Pattern call = Pattern.compile("(\\.)?\\b(\\w+)\\(");
        for (Written m : all) {
            Matcher calls = call.matcher(m.body);
            while (calls.find()) {
                // A call of another object is one of another class: no class has two objects that call one another.
                boolean isOther = calls.group(1) != null;
                for (Written w : all) {
                    if (w.name.equals(calls.group(2)) && w.type.equals(m.type) != isOther && !m.calls.contains(w)) {
                        m.calls.add(w);
                    }
                }
            }
        }
        for (Written m : all) {
            CHECK.due("calls from " + m.type + "." + m.name + " on: " + depthOf(m), depthOf(m) <= 8, true);
        }
    }

    private static int depthOf(Written m) {
        if (m.isOpen) {
            CHECK.due("a call of itself: " + m.type + "." + m.name, true, false);
            return 1;
        }
        if (m.depth == 0) {
            m.isOpen = true;
            int deepest = 0;
            for (Written other : m.calls) {
                deepest = Math.max(deepest, depthOf(other));
            }
            m.isOpen = false;
            m.depth = deepest + 1;
        }
        return m.depth;
    }
}
