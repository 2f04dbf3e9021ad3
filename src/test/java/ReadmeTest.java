import java.lang.reflect.Array;
import java.lang.reflect.Field;
import java.lang.reflect.Method;
import java.lang.reflect.Modifier;
import java.net.URL;
import java.net.URLClassLoader;
import java.nio.file.Files;
import java.nio.file.Path;
import java.util.ArrayList;
import java.util.IdentityHashMap;
import java.util.List;
import java.util.Map;
import java.util.regex.Matcher;
import java.util.regex.Pattern;
import java.util.stream.Stream;
import javax.tools.ToolProvider;

/** README.md: what it shows in Java is compiled and answers as it says, and what it tells of the files and calls is so. */
public final class ReadmeTest {
    private static final Path PAGE = Path.of("README.md");
    private static final Path TESTS = Path.of("src/test/java");
    private static final Pattern BLOCK = Pattern.compile("(?s)```java\n(.*?)```");
    private static final Pattern SHOWN = Pattern.compile("(.*);\\s*// = (-?\\w+)(\\s.*)?");

    public static void main(String[] args) throws Exception {
        String page = Files.readString(PAGE);
        shown(page);
        callsAreNamed(page);
        filesAreNamed(page);
        room(page);
        Check.finish();
    }

    /** The page's statements, one behind the other in one method; its static methods stand beside. */
    private static void shown(String page) throws Exception {
        StringBuilder methods = new StringBuilder();
        StringBuilder statements = new StringBuilder();
        List<String> calls = new ArrayList<>();
        List<String> told = new ArrayList<>();
        Matcher block = BLOCK.matcher(page);
        while (block.find()) {
            if (block.group(1).startsWith("static ")) {
                methods.append(block.group(1));
                continue;
            }
            for (String line : block.group(1).split("\n")) {
                Matcher shown = SHOWN.matcher(line);
                if (shown.matches()) {
                    calls.add(shown.group(1));
                    told.add(shown.group(2));
                    statements.append("answers.add(" + shown.group(1) + ");\n");
                } else {
                    statements.append(line).append('\n');
                }
            }
        }
        List<Object> answers = new ArrayList<>();
        run("public class Shown {\n" + methods + "public static void all(java.util.List<Object> answers) {\n" + statements + "}\n}\n", answers);
        Check.due("calls that README.md shows", answers.size(), calls.size());
        Check.due("some are shown", calls.size() > 30, true);
        for (int i = 0; i < answers.size(); i++) {
            String answer = String.valueOf(answers.get(i));
            Check.due("README.md: " + calls.get(i) + " answered " + answer + ", README.md says " + told.get(i), answer.equals(told.get(i)), true);
        }
    }

    private static void run(String code, List<Object> answers) throws Exception {
        Path folder = Files.createTempDirectory("shown");
        Path file = folder.resolve("Shown.java");
        Files.writeString(file, code);
        String classes = System.getProperty("java.class.path");
        int failed = ToolProvider.getSystemJavaCompiler().run(null, null, null, "-cp", classes, "-d", folder.toString(), file.toString());
        Check.due("what README.md shows compiles", failed, 0);
        if (failed == 0) {
            try (URLClassLoader loader = new URLClassLoader(new URL[] {folder.toUri().toURL()})) {
                loader.loadClass("Shown").getMethod("all", List.class).invoke(null, answers);
            }
        }
        for (String name : new String[] {"Shown.class", "Shown.java", ""}) {
            Files.deleteIfExists(folder.resolve(name));
        }
    }

    private static void callsAreNamed(String page) {
        String table = page.substring(page.indexOf("### All calls"), page.indexOf("## How it is built"));
        for (Method m : DeerDays.class.getDeclaredMethods()) {
            if (Modifier.isPublic(m.getModifiers())) {
                Check.due("README.md names " + m.getName(), table.contains("`" + m.getName() + "`"), true);
            }
        }
        for (Class<?> in : DeerDays.class.getDeclaredClasses()) {
            Check.due("README.md names " + in.getSimpleName(), page.contains("`" + in.getSimpleName() + "`"), true);
        }
    }

    private static void filesAreNamed(String page) throws Exception {
        List<String> names = new ArrayList<>();
        try (Stream<Path> files = Files.list(TESTS)) {
            files.forEach(file -> names.add(file.getFileName().toString().replace(".java", "")));
        }
        for (String name : names) {
            if (name.endsWith("Test") || name.endsWith("Bounds")) {
                Check.due("README.md names " + name, page.contains("`" + name + "`"), true);
            }
        }
        Matcher named = Pattern.compile("\\b\\w+(Test|Bounds)\\b").matcher(page);
        while (named.find()) {
            Check.due("is there: " + named.group(), names.contains(named.group()), true);
        }
        Matcher paths = Pattern.compile("(?:\\.\\./shared|src|\\.ci)/[\\w./]*\\w").matcher(page);
        while (paths.find()) {
            Check.due("is there: " + paths.group(), Files.exists(Path.of(paths.group())), true);
        }
    }

    private static void room(String page) throws Exception {
        Map<Object, Boolean> met = new IdentityHashMap<>();
        long parts = partsOf(new DeerDays(), met);
        String told = met.size() + " objects and arrays with " + parts + " fields\nand elements";
        Check.due("README.md tells of " + told.replace('\n', ' '), page.contains(told), true);
    }

    /** Fields and elements of it and of all that it leads to. */
    private static long partsOf(Object o, Map<Object, Boolean> met) throws Exception {
        if (o == null || met.put(o, true) != null) {
            return 0;
        }
        long parts = 0;
        if (o.getClass().isArray()) {
            boolean ofObjects = !o.getClass().getComponentType().isPrimitive();
            for (int i = 0; i < Array.getLength(o); i++) {
                parts += 1 + (ofObjects ? partsOf(Array.get(o, i), met) : 0);
            }
            return parts;
        }
        for (Field f : o.getClass().getDeclaredFields()) {
            if (!Modifier.isStatic(f.getModifiers())) {
                f.setAccessible(true);
                parts += 1 + (f.getType().isPrimitive() ? 0 : partsOf(f.get(o), met));
            }
        }
        return parts;
    }
}
