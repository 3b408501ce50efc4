import java.io.ByteArrayOutputStream;
import java.io.PrintStream;
import java.net.URL;
import java.net.URLClassLoader;
import java.nio.file.Files;
import java.nio.file.Path;
import java.util.Comparator;
import java.util.List;
import java.util.regex.Matcher;
import java.util.regex.Pattern;
import java.util.stream.Collectors;
import java.util.stream.Stream;
import javax.tools.ToolProvider;

/** The program that README.md shows can be compiled and prints what stands below it; each call and test is named there. */
public final class ReadmeTest {

    private static int wrong;

    private static void must(boolean holds, String what) {
        if (!holds) {
            wrong++;
            System.out.println("not so: " + what);
        }
    }

    public static void main(String[] args) throws Exception {
        String readme = Files.readString(Path.of("README.md"));
        Path out = Files.createTempDirectory("readme");
        try {
            String printed = run(block(readme, "java"), out);
            must(printed.equals(block(readme, "text")), "the program of README.md prints\n" + printed);
        } finally {
            remove(out);
        }
        for (var m : CoachWaits.class.getDeclaredMethods()) {
            boolean isCall = java.lang.reflect.Modifier.isPublic(m.getModifiers());
            must(!isCall || readme.contains("`" + m.getName() + "`"), "README.md names " + m.getName());
        }
        for (String test : testNames()) {
            must(readme.contains("`" + test + "`"), "README.md names " + test);
        }
        must(readme.contains("bash .ci/run") && Files.isExecutable(Path.of(".ci/run")), "how the tests are run");
        System.out.println(wrong == 0 ? "README.md tells what is so" : wrong + " in README.md is not so");
        if (wrong != 0) {
            System.exit(1);
        }
    }

    private static String block(String readme, String kind) {
        Matcher m = Pattern.compile("(?s)```" + kind + "\n(.*?)```").matcher(readme);
        must(m.find(), "README.md shows " + kind);
        return wrong == 0 ? m.group(1) : "";
    }

    private static String run(String program, Path out) throws Exception {
        Path file = out.resolve("Example.java");
        Files.writeString(file, program);
        int answer = ToolProvider.getSystemJavaCompiler().run(null, null, null, "-cp", System.getProperty("java.class.path"),
            "-d", out.toString(), file.toString());
        must(answer == 0, "the program of README.md can be compiled");
        PrintStream was = System.out;
        ByteArrayOutputStream printed = new ByteArrayOutputStream();
        try (URLClassLoader loader = new URLClassLoader(new URL[] {out.toUri().toURL()})) {
            System.setOut(new PrintStream(printed, true, "UTF-8"));
            if (answer == 0) {
                loader.loadClass("Example").getMethod("main", String[].class).invoke(null, (Object) new String[0]);
            }
        } finally {
            System.setOut(was);
        }
        return printed.toString("UTF-8").replace("\r", "");
    }

    private static List<String> testNames() throws Exception {
        try (Stream<Path> files = Files.list(Path.of("src/test/java"))) {
            return files.map(f -> f.getFileName().toString().replace(".java", "")).collect(Collectors.toList());
        }
    }

    private static void remove(Path dir) throws Exception {
        try (Stream<Path> files = Files.walk(dir)) {
            for (Path p : files.sorted(Comparator.reverseOrder()).collect(Collectors.toList())) {
                Files.delete(p);
            }
        }
    }
}
