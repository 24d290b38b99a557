import java.lang.reflect.Method;
import java.lang.reflect.Modifier;
import java.net.URL;
import java.net.URLClassLoader;
import java.nio.charset.StandardCharsets;
import java.nio.file.Files;
import java.nio.file.Path;
import java.util.Arrays;
import java.util.Set;
import java.util.TreeSet;
import java.util.regex.Matcher;
import java.util.regex.Pattern;
import java.util.stream.Collectors;
import javax.tools.ToolProvider;

/** README.md: its program compiles and answers what stands behind its calls; its table names each call, and its list each test. */
public final class ReadmeTest {
    private static final Pattern ANSWERED = Pattern.compile("(?m)^( +)(t\\w+[^\\n;]*\\((?:[^\\n\"]|\"[^\"\\n]*\")*\\)); +// (-?\\d+|true|false):");
    private static int asked;
    private static int wrong;

    private ReadmeTest() { }

    private static void fail(String what) {
        wrong++;
        System.out.println("README.md: " + what);
    }

    /** The program that is read from README.md calls these. */
    public static void due(long want, long got, String call) {
        asked++;
        if (got != want) {
            fail(call + " answered " + got + ", it says " + want);
        }
    }

    public static void due(boolean want, boolean got, String call) {
        due(want ? 1 : 0, got ? 1 : 0, call);
    }

    private static String programOf(String readme) {
        Matcher block = Pattern.compile("```java\\n(.*?)```", Pattern.DOTALL).matcher(readme);
        return block.find() ? block.group(1) : "";
    }

    private static String asking(String program) {
        return ANSWERED.matcher(program).replaceAll(found -> Matcher.quoteReplacement(found.group(1) + "ReadmeTest.due(" + found.group(3) + ", " + found.group(2)
                + ", \"" + found.group(2).replace("\"", "'") + "\"); //"));
    }

    private static void run(String program) throws Exception {
        Path folder = Files.createTempDirectory("readme");
        Path source = folder.resolve("Street.java");
        try {
            Files.writeString(source, program, StandardCharsets.UTF_8);
            String classes = System.getProperty("java.class.path");
            if (ToolProvider.getSystemJavaCompiler().run(null, null, null, "-proc:none", "-cp", classes, "-d", folder.toString(), source.toString()) != 0) {
                fail("the program does not compile");
                return;
            }
            try (URLClassLoader loader = new URLClassLoader(new URL[] {folder.toUri().toURL()}, ReadmeTest.class.getClassLoader())) {
                loader.loadClass("Street").getMethod("main", String[].class).invoke(null, (Object) new String[0]);
            }
        } finally {
            Files.deleteIfExists(folder.resolve("Street.class"));
            Files.deleteIfExists(source);
            Files.deleteIfExists(folder);
        }
    }

    private static Set<String> wordsOf(String text, String pattern) {
        return Pattern.compile(pattern).matcher(text).results().map(found -> found.group(1)).collect(Collectors.toCollection(TreeSet::new));
    }

    private static void lookAtTable(String readme) {
        String table = readme.lines().filter(line -> line.startsWith("| `")).collect(Collectors.joining("\n"));
        Set<String> face = Arrays.stream(ShadowDoors.class.getDeclaredMethods()).filter(method -> Modifier.isPublic(method.getModifiers()))
                .map(Method::getName).collect(Collectors.toCollection(TreeSet::new));
        Set<String> named = wordsOf(table, "`(\\w+)`");
        if (!face.equals(named)) {
            fail("the table names " + named + ", the class has " + face);
        }
    }

    private static void lookAtTests(String readme, Path home) throws Exception {
        Set<String> listed = wordsOf(readme, "- `src/test/java/(\\w+)\\.java`");
        try (var files = Files.list(home.resolve("src/test/java"))) {
            Set<String> tests = wordsOf(files.map(Path::toString).collect(Collectors.joining("\n")), "(\\w+Test)\\.java");
            if (!tests.equals(listed)) {
                fail("the list has " + listed + ", the tests are " + tests);
            }
        }
    }

    public static void main(String[] args) throws Exception {
        String told = System.getenv("SHADOW_DOORS_HOME");
        Path home = Path.of(told == null ? "." : told);
        String readme = Files.readString(home.resolve("README.md"), StandardCharsets.UTF_8);
        String program = programOf(readme);
        run(asking(program));
        long said = Pattern.compile("// (-?\\d+|true|false):").matcher(program).results().count();
        if (said == 0 || asked != said) {
            fail(said + " answers stand in the program, " + asked + " were looked at");
        }
        lookAtTable(readme);
        lookAtTests(readme, home);
        System.out.println(asked + " answers of README.md, " + wrong + " not as due");
        if (wrong > 0) {
            System.exit(1);
        }
    }
}
