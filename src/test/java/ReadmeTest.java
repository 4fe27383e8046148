import java.io.File;
import java.io.IOException;
import java.lang.reflect.Method;
import java.nio.charset.StandardCharsets;
import java.nio.file.Files;
import java.nio.file.Path;
import java.util.Comparator;
import java.util.Set;
import java.util.TreeSet;
import java.util.regex.Matcher;
import java.util.regex.Pattern;
import java.util.stream.Collectors;
import java.util.stream.Stream;

/** README.md: its program prints what it says, its tables name all calls, all tests and all classes. */
public final class ReadmeTest {
    private static final Check CHECK = new Check("ReadmeTest");
    private static final Path TESTS = Path.of("src/test/java");

    public static void main(String[] args) throws Exception {
        String readme = Files.readString(Path.of("README.md"));
        same("what the program prints", printed(block(readme, "java")), block(readme, "text"));
        same("calls", first(readme, "| Calls |"), calls());
        Set<String> tests = first(readme, "| Test | What");
        tests.addAll(first(readme, "| Test | Its"));
        same("tests", tests, testFiles());
        same("classes", classesTold(readme), classes());
        commands(block(readme, "sh"));
        CHECK.end();
    }

    private static void same(String what, Object got, Object want) {
        CHECK.due(what + ": " + got + ", due is " + want, got.equals(want), true);
    }

    private static String block(String readme, String kind) {
        Matcher block = Pattern.compile("^```" + kind + "\n(.*?)^```$", Pattern.DOTALL | Pattern.MULTILINE).matcher(readme);
        return block.find() ? block.group(1) : "";
    }

    private static String printed(String program) throws Exception {
        Path directory = Files.createTempDirectory("readme");
        try {
            Path source = Files.writeString(directory.resolve("Example.java"), program);
            String path = System.getProperty("java.class.path") + File.pathSeparator + directory;
            String said = outputOf("javac", "-cp", path, "-d", directory.toString(), source.toString());
            return said.isEmpty() ? outputOf("java", "-cp", path, "Example") : said;
        } finally {
            remove(directory);
        }
    }

    private static String outputOf(String... command) throws Exception {
        Process process = new ProcessBuilder(command).redirectError(ProcessBuilder.Redirect.INHERIT).start();
        String output = new String(process.getInputStream().readAllBytes(), StandardCharsets.UTF_8);
        return process.waitFor() == 0 ? output.replace(System.lineSeparator(), "\n") : "failed: " + output;
    }

    private static void remove(Path directory) throws IOException {
        try (Stream<Path> all = Files.walk(directory)) {
            for (Path path : all.sorted(Comparator.reverseOrder()).collect(Collectors.toList())) {
                Files.delete(path);
            }
        }
    }

    /** All that stands in `` in the first column of the table with a head. */
    private static Set<String> first(String readme, String head) {
        Set<String> names = new TreeSet<>();
        int begin = readme.indexOf(head);
        int end = readme.indexOf("\n\n", Math.max(begin, 0));
        String table = begin < 0 ? "" : readme.substring(begin, end < 0 ? readme.length() : end);
        for (String row : table.split("\n")) {
            Matcher name = Pattern.compile("`(\\w+)`").matcher(row.split("\\|")[1]);
            while (name.find()) {
                names.add(name.group(1));
            }
        }
        return names;
    }

    private static Set<String> calls() {
        Set<String> names = new TreeSet<>();
        for (Method method : CubeStore.class.getMethods()) {
            if (method.getDeclaringClass() == CubeStore.class) {
                names.add(method.getName());
            }
        }
        return names;
    }

    private static Set<String> testFiles() throws IOException {
        try (Stream<Path> files = Files.list(TESTS)) {
            return files.map(file -> file.getFileName().toString()).filter(name -> name.endsWith(".java"))
                .map(name -> name.replace(".java", "")).collect(Collectors.toCollection(TreeSet::new));
        }
    }

    private static Set<String> classesTold(String readme) {
        String told = readme.substring(Math.max(readme.indexOf("## How it works"), 0), Math.max(readme.indexOf("## Tests"), 0));
        Set<String> names = new TreeSet<>();
        Matcher name = Pattern.compile("`([A-Z]\\w+)`").matcher(told);
        while (name.find()) {
            names.add(name.group(1));
        }
        return names;
    }

    private static Set<String> classes() {
        return Stream.of(CubeStore.class.getDeclaredClasses()).map(Class::getSimpleName).collect(Collectors.toCollection(TreeSet::new));
    }

    /** The files and tests that the commands name are there. */
    private static void commands(String block) {
        Matcher java = Pattern.compile("java -cp out (\\w+)").matcher(block);
        while (java.find()) {
            CHECK.due("a test: " + java.group(1), Files.exists(TESTS.resolve(java.group(1) + ".java")), true);
        }
        Matcher file = Pattern.compile("(src/[\\w/]+)/(\\*|\\w+)\\.java").matcher(block);
        while (file.find()) {
            CHECK.due("a directory: " + file.group(1), Files.isDirectory(Path.of(file.group(1))), true);
        }
        CHECK.due("there are commands", block.contains("javac -d out") && block.contains("java -cp out"), true);
    }
}
