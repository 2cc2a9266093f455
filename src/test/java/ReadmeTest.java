import java.io.File;
import java.io.StringWriter;
import java.lang.reflect.Field;
import java.lang.reflect.InvocationTargetException;
import java.lang.reflect.Method;
import java.lang.reflect.Modifier;
import java.net.URL;
import java.net.URLClassLoader;
import java.nio.file.Files;
import java.nio.file.Path;
import java.util.ArrayList;
import java.util.List;
import java.util.TreeSet;
import java.util.regex.Matcher;
import java.util.regex.Pattern;
import javax.tools.JavaCompiler;
import javax.tools.ToolProvider;

/** What README.md says is so: its examples are run, and what it tells of calls, constants and tests is looked up. */
public final class ReadmeTest {
    private static final Pattern BLOCK = Pattern.compile("```java\n(.*?)```", Pattern.DOTALL);
    private static final Pattern ANSWER = Pattern.compile("^\\s*(int (\\w+) = )?(x\\.(\\w+)\\(.*\\)); +// (-?\\d+)\\b.*$");
    private static int wrong;
    private static int answers;

    private static void fault(String what) {
        wrong++;
        System.out.println("README.md: " + what);
    }

    /** Called by the examples. */
    public static void due(String line, long got, long want) {
        answers++;
        if (got != want) {
            fault(line.trim() + ": answered " + got);
        }
    }

    private static String quoted(String text) {
        return '"' + text.replace("\\", "\\\\").replace("\"", "\\\"") + '"';
    }

    /** The examples as one class: helpers are its methods, the rest is run from above to below. */
    private static String programOf(String readme) {
        StringBuilder helpers = new StringBuilder();
        StringBuilder body = new StringBuilder();
        Matcher m = BLOCK.matcher(readme);
        while (m.find()) {
            if (m.group(1).startsWith("static ")) {
                helpers.append(m.group(1));
            } else {
                for (String line : m.group(1).split("\n")) {
                    body.append(checked(line)).append('\n');
                }
            }
        }
        return "public final class Example {\n" + helpers + "public static void run() {\n" + body + "}\n}\n";
    }

    private static String checked(String line) {
        Matcher m = ANSWER.matcher(line);
        if (!m.matches()) {
            return line;
        }
        String ahead = m.group(1) == null ? "" : line + "\n";
        String got = m.group(1) == null ? m.group(3) : m.group(2);
        return ahead + "ReadmeTest.due(" + quoted(line) + ", " + got + ", " + m.group(5) + ");";
    }

    private static void runExamples(String readme) throws Exception {
        JavaCompiler compiler = ToolProvider.getSystemJavaCompiler();
        if (compiler == null) {
            fault("there is no compiler for its examples");
            return;
        }
        Path out = Files.createTempDirectory("readme");
        Path source = out.resolve("Example.java");
        Files.writeString(source, programOf(readme));
        StringWriter said = new StringWriter();
        List<String> options = List.of("-d", out.toString(), "-cp", System.getProperty("java.class.path"));
        boolean compiled = compiler.getTask(said, null, null, options, null,
                compiler.getStandardFileManager(null, null, null).getJavaFileObjects(source)).call();
        if (!compiled) {
            fault("its examples do not compile: " + said);
        } else {
            try (URLClassLoader loader = new URLClassLoader(new URL[] {out.toUri().toURL()})) {
                loader.loadClass("Example").getMethod("run").invoke(null);
            } catch (InvocationTargetException e) {
                fault("an example threw " + e.getCause());
            }
        }
        File[] left = out.toFile().listFiles();
        for (File f : left == null ? new File[0] : left) {
            Files.delete(f.toPath());
        }
        Files.delete(out);
        if (answers < 20) {
            fault("only " + answers + " answers were looked at");
        }
    }

    /** The names in one sentence or table, written as `name`. */
    private static TreeSet<String> named(String text) {
        TreeSet<String> names = new TreeSet<>();
        Matcher m = Pattern.compile("`(\\w+)`").matcher(text);
        while (m.find()) {
            names.add(m.group(1));
        }
        return names;
    }

    private static String between(String readme, String from, String to) {
        int start = readme.indexOf(from);
        int end = readme.indexOf(to, Math.max(0, start));
        if (start < 0 || end < 0) {
            fault("it has no part from '" + from + "' to '" + to + "'");
            return "";
        }
        return readme.substring(start, end);
    }

    private static void same(String what, TreeSet<String> due, TreeSet<String> told) {
        if (!due.equals(told)) {
            fault(what + ": it tells " + told + ", there are " + due);
        }
    }

    private static void lookUpCalls(String readme) {
        TreeSet<String> calls = new TreeSet<>();
        TreeSet<String> answering = new TreeSet<>();
        for (Method m : SyncTree.class.getDeclaredMethods()) {
            if (Modifier.isPublic(m.getModifiers())) {
                calls.add(m.getName());
                if (answersWithoutPower(m)) {
                    answering.add(m.getName());
                }
            }
        }
        same("the calls", calls, named(between(readme, "### The calls", "While power is off")));
        same("calls that answer while power is off", answering, named(between(readme, "While power is off `", "answer; all")));
    }

    private static boolean answersWithoutPower(Method m) {
        SyncTree x = new SyncTree();
        x.crash();
        List<Object> arguments = new ArrayList<>();
        for (Class<?> type : m.getParameterTypes()) {
            arguments.add(type == boolean.class ? (Object) false : type == long.class ? (Object) 0L : (Object) 0);
        }
        try {
            m.invoke(x, arguments.toArray());
            return true;
        } catch (InvocationTargetException e) {
            if (!(e.getCause() instanceof IllegalStateException)) {
                fault(m.getName() + " threw " + e.getCause());
            }
            return false;
        } catch (IllegalAccessException e) {
            fault(m.getName() + " can't be called");
            return false;
        }
    }

    private static void lookUpConstants(String readme) throws Exception {
        TreeSet<String> constants = new TreeSet<>();
        for (Field f : SyncTree.class.getDeclaredFields()) {
            if (Modifier.isPublic(f.getModifiers())) {
                constants.add("`" + f.getName() + "` | " + f.getInt(null));
            }
        }
        TreeSet<String> told = new TreeSet<>();
        Matcher m = Pattern.compile("`[A-Z_]+` \\| -?\\d+").matcher(between(readme, "| constant |", "## How it is built"));
        while (m.find()) {
            told.add(m.group());
        }
        same("the constants", constants, told);
    }

    private static void lookUpParts(String readme) {
        String source = between(readme, "## How it is built", "## How to run its tests");
        for (String name : named(source)) {
            boolean found = false;
            for (Class<?> c : SyncTree.class.getDeclaredClasses()) {
                found |= c.getSimpleName().equals(name);
            }
            if (!found && Character.isUpperCase(name.charAt(0))) {
                fault("there is no class " + name);
            }
        }
    }

    private static void lookUpTests(String readme) {
        TreeSet<String> tests = new TreeSet<>();
        String[] files = new File("src/test/java").list();
        for (String file : files == null ? new String[0] : files) {
            tests.add(file.replace(".java", ""));
        }
        same("the tests", tests, named(between(readme, "The tests are", "- every test under")));
        if (!new File(".ci/run").canExecute()) {
            fault("there is no .ci/run that can be run");
        }
    }

    public static void main(String[] args) throws Exception {
        String readme = Files.readString(Path.of("README.md"));
        runExamples(readme);
        lookUpCalls(readme);
        lookUpConstants(readme);
        lookUpParts(readme);
        lookUpTests(readme);
        System.out.println(answers + " answers of README.md's examples, " + wrong + " things are not so");
        if (wrong > 0) {
            System.exit(1);
        }
    }
}
