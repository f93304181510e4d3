import java.io.IOException;
import java.lang.reflect.Method;
import java.lang.reflect.Modifier;
import java.net.URL;
import java.net.URLClassLoader;
import java.nio.file.Files;
import java.nio.file.Path;
import java.util.ArrayList;
import java.util.List;
import java.util.Set;
import java.util.TreeSet;
import java.util.regex.Matcher;
import java.util.regex.Pattern;
import java.util.stream.Stream;
import javax.tools.ToolProvider;

/** What README.md shows of calls is what the class answers, and the tests that it names are those there are. */
public final class ReadmeTest {
    private static final Pattern BLOCK = Pattern.compile("```java\n(.*?)```", Pattern.DOTALL);
    private static final Pattern SHOWN = Pattern.compile(
            "(?:int (?<name>\\w+) = )?(?<call>x\\.(?<method>\\w+)\\(.*\\)); +"
                    + "// (?<how>answers|throws) (?<due>-?\\w+)(?:: .*)?");
    private static final Set<String> UNSHOWN = Set.of("DesignTrees x = new DesignTrees();", "x.clear();");
    private static final Pattern TEST = Pattern.compile("`(\\w+Test)`");

    private static int wrong = 0;

    public static void main(String[] args) throws Exception {
        String readme = Files.readString(Path.of("README.md"));
        Set<String> shownMethods = new TreeSet<>();
        List<String> program = program(linesOfJava(readme), shownMethods);
        check("calls that are shown", callsThatAnswer().toString(), shownMethods.toString());
        runProgram(program);
        check("tests that are named", testsThereAre().toString(), testsNamed(readme).toString());
        check("the command that runs the tests", "true", String.valueOf(readme.contains("\n.ci/run\n")));
        System.out.println(wrong == 0 ? "README.md shows what is" : wrong + " faults of README.md");
        if (wrong != 0) {
            System.exit(1);
        }
    }

    /** Called by the program that is made of the lines shown. */
    public static void check(String what, String due, String got) {
        if (!due.equals(got)) {
            wrong++;
            System.out.println(what + " answered " + got + ", due is " + due);
        }
    }

    private static Set<String> callsThatAnswer() {
        Set<String> names = new TreeSet<>();
        for (Method method : DesignTrees.class.getDeclaredMethods()) {
            if (Modifier.isPublic(method.getModifiers()) && method.getReturnType() != void.class) {
                names.add(method.getName());
            }
        }
        return names;
    }

    private static List<String> linesOfJava(String readme) {
        List<String> lines = new ArrayList<>();
        Matcher block = BLOCK.matcher(readme);
        while (block.find()) {
            lines.addAll(block.group(1).lines().toList());
        }
        return lines;
    }

    /** Every line has to show an answer, so that a slip in the form of one is not a line left untested. */
    private static List<String> program(List<String> lines, Set<String> shownMethods) {
        List<String> program = new ArrayList<>();
        for (String line : lines) {
            Matcher shown = SHOWN.matcher(line);
            if (shown.matches()) {
                program.add(checked(shown));
                shownMethods.add(shown.group("method"));
            } else {
                check("the question whether [" + line + "] may show no answer", "true",
                        String.valueOf(UNSHOWN.contains(line)));
                program.add(line);
            }
        }
        return program;
    }

    private static String checked(Matcher shown) {
        String call = shown.group("call");
        String check = "ReadmeTest.check(\"" + call + "\", \"" + shown.group("due") + "\", ";
        if (shown.group("how").equals("throws")) {
            return "try { " + check + "String.valueOf(" + call + ")); }"
                    + " catch (RuntimeException e) { " + check + "e.getClass().getSimpleName()); }";
        }
        String name = shown.group("name");
        if (name == null) {
            return check + "String.valueOf(" + call + "));";
        }
        return "int " + name + " = " + call + "; " + check + "String.valueOf(" + name + "));";
    }

    private static void runProgram(List<String> program) throws Exception {
        Path place = Files.createTempDirectory("readme");
        try {
            Path source = place.resolve("ReadmeProgram.java");
            Files.writeString(source, "public final class ReadmeProgram {\npublic static void run() {\n"
                    + String.join("\n", program) + "\n}\n}\n");
            int code = ToolProvider.getSystemJavaCompiler().run(null, null, null,
                    "-cp", System.getProperty("java.class.path"), "-d", place.toString(), source.toString());
            check("compiling the lines of README.md", "0", String.valueOf(code));
            if (code == 0) {
                callRun(place);
            }
        } finally {
            deleteAll(place);
        }
    }

    private static void callRun(Path place) throws Exception {
        try (URLClassLoader loader = new URLClassLoader(new URL[] {place.toUri().toURL()})) {
            loader.loadClass("ReadmeProgram").getMethod("run").invoke(null);
        }
    }

    private static Set<String> testsThereAre() throws IOException {
        Set<String> names = new TreeSet<>();
        try (Stream<Path> files = Files.list(Path.of("src/test/java"))) {
            files.map(file -> file.getFileName().toString())
                    .filter(name -> name.endsWith("Test.java"))
                    .forEach(name -> names.add(name.replace(".java", "")));
        }
        return names;
    }

    private static Set<String> testsNamed(String readme) {
        Set<String> names = new TreeSet<>();
        Matcher test = TEST.matcher(readme);
        while (test.find()) {
            names.add(test.group(1));
        }
        return names;
    }

    private static void deleteAll(Path place) throws IOException {
        try (Stream<Path> files = Files.list(place)) {
            for (Path file : files.toList()) {
                Files.delete(file);
            }
        }
        Files.delete(place);
    }
}
