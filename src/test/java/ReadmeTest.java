import java.io.IOException;
import java.lang.reflect.Method;
import java.lang.reflect.Modifier;
import java.net.URL;
import java.net.URLClassLoader;
import java.nio.charset.StandardCharsets;
import java.nio.file.DirectoryStream;
import java.nio.file.Files;
import java.nio.file.Path;
import java.util.Set;
import java.util.TreeSet;
import java.util.regex.Matcher;
import java.util.regex.Pattern;
import javax.tools.JavaCompiler;
import javax.tools.ToolProvider;

// README.md's own code, compiled and run: each call answers what the page says behind it.
public final class ReadmeTest {
    private static final Path README = Path.of("README.md");
    private static final Path TESTS = Path.of("src/test/java");
    private static final Path CI = Path.of(".ci/run");
    private static final Pattern CALL = Pattern.compile("b\\.(\\w+)\\((.*)\\);\\s*// (-?\\d+|BAD|NO|NONE|FULL)\\b.*");
    private static final Pattern OTHER = Pattern.compile("(?:BothWould b = new BothWould\\(\\);|write\\(b, \"[^\"]*\"\\);)\\s*(?://.*)?");

    private static final Set<String> shown = new TreeSet<>();
    private static int wrong = 0;

    private static void must(boolean holds, String what) {
        if (!holds) {
            wrong++;
            System.out.println("README.md: not so: " + what);
        }
    }

    public static void main(String[] args) throws IOException, ReflectiveOperationException {
        String page = Files.readString(README, StandardCharsets.UTF_8);
        runIt(program(page));
        everyCallIsShown();
        refusals(page);
        howToRunTheTests(page);
        System.out.println(wrong == 0 ? "what README.md shows is so" : wrong + " things are not so");
        if (wrong != 0) {
            System.exit(1);
        }
    }

    // A block that begins with static is a method; all the others go on one behind the other.
    private static String program(String page) {
        StringBuilder methods = new StringBuilder();
        StringBuilder body = new StringBuilder();
        int calls = 0;
        Matcher block = Pattern.compile("```java\n(.*?)```", Pattern.DOTALL).matcher(page);
        while (block.find()) {
            if (block.group(1).startsWith("static ")) {
                methods.append(block.group(1));
                continue;
            }
            for (String line : block.group(1).split("\n")) {
                calls += line.startsWith("b.") ? 1 : 0;
                body.append(statement(line)).append('\n');
            }
        }
        must(calls >= 32, "it shows every call: " + calls);
        must(calls < 450, "an object is used for 512 calls at most: " + calls);
        return "public final class ReadmeCode {\nstatic int wrong = 0;\n"
            + "static void due(String call, int got, int want) {\nif (got != want) {\nwrong++;\n"
            + "System.out.println(\"README.md: \" + call + \" answers \" + got + \", not \" + want);\n}\n}\n"
            + methods + "public static int run() {\n" + body + "return wrong;\n}\n}\n";
    }

    private static String statement(String line) {
        Matcher call = CALL.matcher(line);
        if (call.matches()) {
            String answer = call.group(3);
            shown.add(call.group(1));
            shown.add(answer);
            String want = Character.isLetter(answer.charAt(0)) ? "BothWould." + answer : answer;
            String text = "b." + call.group(1) + "(" + call.group(2) + ")";
            return "due(\"" + text + "\", " + text + ", " + want + ");";
        }
        must(OTHER.matcher(line).matches(), "this line says what it answers: " + line);
        return line;
    }

    private static void runIt(String program) throws IOException, ReflectiveOperationException {
        Path place = Files.createTempDirectory("readme");
        Path source = place.resolve("ReadmeCode.java");
        Files.writeString(source, program, StandardCharsets.UTF_8);
        JavaCompiler compiler = ToolProvider.getSystemJavaCompiler();
        try {
            int failed = compiler == null ? 1 : compiler.run(null, null, null, "--release", "17", "-encoding", "UTF-8",
                "-cp", System.getProperty("java.class.path"), "-d", place.toString(), source.toString());
            must(failed == 0, "its code compiles");
            if (failed != 0) {
                return;
            }
            try (URLClassLoader loader = new URLClassLoader(new URL[] {place.toUri().toURL()}, ReadmeTest.class.getClassLoader())) {
                int answers = (Integer) loader.loadClass("ReadmeCode").getMethod("run").invoke(null);
                must(answers == 0, answers + " answers are not as it says");
            }
        } finally {
            Files.deleteIfExists(place.resolve("ReadmeCode.class"));
            Files.deleteIfExists(source);
            Files.deleteIfExists(place);
        }
    }

    private static void everyCallIsShown() {
        for (Method m : BothWould.class.getDeclaredMethods()) {
            if (Modifier.isPublic(m.getModifiers())) {
                must(shown.contains(m.getName()), "it shows " + m.getName());
            }
        }
    }

    private static void refusals(String page) {
        String[] names = {"BAD", "NO", "FULL", "NONE"};
        int[] numbers = {BothWould.BAD, BothWould.NO, BothWould.FULL, BothWould.NONE};
        for (int k = 0; k < 4; k++) {
            must(shown.contains(names[k]), "it shows a call that answers " + names[k]);
            must(page.contains("\n| `" + names[k] + "` | " + numbers[k] + " | "), "it says what " + names[k] + " means, with its number");
        }
    }

    private static void howToRunTheTests(String page) throws IOException {
        must(page.contains("```sh\n.ci/run\n```"), "it says how the tests are run");
        must(Files.isExecutable(CI), ".ci/run can be run");
        Set<String> there = new TreeSet<>();
        try (DirectoryStream<Path> files = Files.newDirectoryStream(TESTS, "*.java")) {
            for (Path file : files) {
                there.add(file.getFileName().toString().replace(".java", ""));
            }
        }
        Set<String> named = new TreeSet<>();
        Matcher m = Pattern.compile("`(\\w+Test)`").matcher(page);
        while (m.find()) {
            named.add(m.group(1));
        }
        must(named.equals(there), "it names the tests that there are: " + named + ", " + there);
    }
}
