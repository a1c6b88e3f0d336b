import java.io.ByteArrayOutputStream;
import java.io.File;
import java.io.PrintStream;
import java.net.URL;
import java.net.URLClassLoader;
import java.nio.charset.StandardCharsets;
import java.nio.file.Files;
import java.nio.file.Path;
import java.nio.file.Paths;
import java.util.ArrayList;
import java.util.Arrays;
import java.util.List;
import java.util.Set;
import java.util.TreeSet;
import java.util.regex.Matcher;
import java.util.regex.Pattern;
import javax.tools.ToolProvider;

/** What README.md says holds: its program prints what stands behind its lines, its tests are those that there are. */
public final class ReadmeTest {
    private static int wrong;

    private static void due(String what, Object want, Object got) {
        if (!want.equals(got)) {
            wrong++;
            System.out.println(what + ": it is " + got + ", due is " + want);
        }
    }

    private static List<String> all(String text, String pattern) {
        List<String> found = new ArrayList<>();
        Matcher m = Pattern.compile(pattern, Pattern.MULTILINE).matcher(text);
        while (m.find()) {
            found.add(m.group(1));
        }
        return found;
    }

    private static String program(String readme) {
        List<String> programs = all(readme, "(?s)^```java\n(.*?)^```");
        due("programs", 1, programs.size());
        return programs.isEmpty() ? "" : programs.get(0);
    }

    /** What Bathe prints, compiled beside the class as README.md says. */
    private static String printed(String program, Path in) throws Exception {
        Path source = in.resolve("Bathe.java");
        Files.write(source, program.getBytes(StandardCharsets.ISO_8859_1));
        Files.copy(Paths.get("src/main/java/DeepBathing.java"), in.resolve("DeepBathing.java"));
        int answer = ToolProvider.getSystemJavaCompiler().run(null, null, null, "-proc:none", "-d", in.toString(),
                "-sourcepath", in.toString(), source.toString());
        due("the compiler's answer", 0, answer);
        ByteArrayOutputStream bytes = new ByteArrayOutputStream();
        PrintStream before = System.out;
        System.setOut(new PrintStream(bytes, true));
        try (URLClassLoader loader = new URLClassLoader(new URL[] {in.toUri().toURL()}, ClassLoader.getPlatformClassLoader())) {
            loader.loadClass("Bathe").getMethod("main", String[].class).invoke(null, (Object) new String[0]);
        } finally {
            System.setOut(before);
        }
        return bytes.toString();
    }

    private static void runs(String readme) throws Exception {
        String program = program(readme);
        Path in = Files.createTempDirectory("readme");
        try {
            List<String> told = all(program, "^ *System\\.out\\.println\\(.*\\); // (.*)$");
            List<String> said = new ArrayList<>(Arrays.asList(printed(program, in).split("\\R")));
            due("lines that print", all(program, "(println)").size(), told.size());
            due("what is printed", told, said);
        } finally {
            for (File file : in.toFile().listFiles()) {
                Files.delete(file.toPath());
            }
            Files.delete(in);
        }
    }

    /** Each test of the project is in the list of README.md, and each in the list is there. */
    private static void tests(String readme) {
        Set<String> there = new TreeSet<>();
        for (String name : new File("src/test/java").list()) {
            if (name.endsWith("Test.java")) {
                there.add(name.replace(".java", ""));
            }
        }
        Set<String> named = new TreeSet<>();
        for (String line : all(readme, "^- (`[A-Z].*?):")) {
            named.addAll(all(line, "`([A-Za-z]+)`"));
        }
        due("tests", there, named);
    }

    /** Each call of the face is told of. */
    private static void calls(String readme) {
        for (java.lang.reflect.Method call : DeepBathing.class.getMethods()) {
            if (call.getDeclaringClass() == DeepBathing.class) {
                due("README.md tells of " + call.getName(), true,
                        Pattern.compile("\\b" + call.getName() + "[`(]").matcher(readme).find());
            }
        }
    }

    public static void main(String[] args) throws Exception {
        String readme = new String(Files.readAllBytes(Paths.get("README.md")), StandardCharsets.ISO_8859_1);
        runs(readme);
        tests(readme);
        calls(readme);
        System.out.println(wrong == 0 ? "README.md holds" : wrong + " wrong");
        if (wrong != 0) {
            System.exit(1);
        }
    }
}
