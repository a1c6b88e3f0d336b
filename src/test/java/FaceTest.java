import java.lang.reflect.Field;
import java.nio.charset.StandardCharsets;
import java.nio.file.Files;
import java.nio.file.Path;
import java.nio.file.Paths;
import java.util.ArrayList;
import java.util.Arrays;
import java.util.List;
import java.util.regex.Matcher;
import java.util.regex.Pattern;

/** "The public face" of the document, line by line, and what the interface says ahead of some calls. */
public final class FaceTest {
    private static int wrong;

    private static void due(String what, Object want, Object got) {
        if (!want.equals(got)) {
            wrong++;
            System.out.println(what + ": it is " + got + ", due is " + want);
        }
    }

    private static String read(String path) throws Exception {
        Path of = Paths.get(path);
        return new String(Files.readAllBytes(of), StandardCharsets.ISO_8859_1);
    }

    private static String first(String text, String pattern) {
        Matcher m = Pattern.compile(pattern, Pattern.DOTALL).matcher(text);
        return m.find() ? m.group(1) : "";
    }

    private static List<String> all(String text, String pattern) {
        List<String> found = new ArrayList<>();
        Matcher m = Pattern.compile(pattern, Pattern.MULTILINE).matcher(text);
        while (m.find()) {
            found.add(m.group(1));
        }
        return found;
    }

    /** The lines with public in them, without their ends. */
    private static List<String> publicLines(String text) {
        return all(text, "^ *(public .*?)[ ;{]*$");
    }

    private static List<String> names(List<String> lines) {
        List<String> names = new ArrayList<>();
        for (String line : lines) {
            names.add(first(line, "([a-zA-Z]+)\\("));
        }
        return names;
    }

    /** The class is the document's, its lines are, and they follow one another as there. */
    private static void face(String document, String source) {
        List<String> told = publicLines(first(document, "```java\n(.*?)```"));
        due("lines of the face", 39, told.size());
        due("the face", told, publicLines(source));
    }

    /** Each promise tells the line of its call once more. */
    private static void promises(String document, String source) {
        List<String> told = all(document, "^`((?:[a-z]+ )?[a-zA-Z]+\\(.*?\\))`:");
        List<String> made = new ArrayList<>();
        for (String line : publicLines(source)) {
            if (line.contains("(")) {
                made.add(line.substring("public ".length()));
            }
        }
        due("promises", 36, told.size());
        due("calls of the promises", told, made);
        due("headings", 36, all(document, "^(## Promise [0-9]+: .*)$").size());
    }

    private static void constants(String document) throws Exception {
        due("NONE", -1, DeepBathing.NONE);
        due("NOTHING", -1000000000000000L, DeepBathing.NOTHING);
        for (String constant : all(document, "`([A-Z]+ = [-0-9L]+)`: ")) {
            Field field = DeepBathing.class.getField(constant.split(" = ")[0]);
            due(constant, constant.split(" = ")[1].replace("L", ""), field.get(null).toString());
        }
    }

    /** "Ahead of the calls .. the interface says": its words stand ahead of these, and of none else. */
    private static void says(String document, String source) {
        List<String> told = all(document, "^(Ahead of the calls .*)$");
        due("what the interface says", 6, told.size());
        List<String> parts = new ArrayList<>(Arrays.asList(source.split("(?=// ---- )")));
        due("parts of the source", 7, parts.size());
        for (int k = 1; k < parts.size() && k <= told.size(); k++) {
            String words = first(told.get(k - 1), "says: (---- .*)\\.$");
            due("said", words, first(parts.get(k), "^// (.*?)\n"));
            due("calls behind " + words, all(told.get(k - 1), "`([a-z]+)`"), names(publicLines(parts.get(k))));
        }
    }

    public static void main(String[] args) throws Exception {
        String document = read("../shared/DOC.md");
        String source = read("src/main/java/DeepBathing.java");
        face(document, source);
        promises(document, source);
        constants(document);
        says(document, source);
        System.out.println(wrong == 0 ? "the face is the document's" : wrong + " wrong");
        if (wrong != 0) {
            System.exit(1);
        }
    }
}
