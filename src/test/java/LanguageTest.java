import java.lang.reflect.Constructor;
import java.lang.reflect.Field;
import java.lang.reflect.Method;
import java.lang.reflect.Modifier;
import java.nio.charset.StandardCharsets;
import java.nio.file.Files;
import java.nio.file.Paths;
import java.util.ArrayList;
import java.util.Arrays;
import java.util.List;
import java.util.Set;
import java.util.TreeSet;
import java.util.regex.Matcher;
import java.util.regex.Pattern;

/** Those rules of LANGUAGE.md that a program can look for. It is run in the project's own directory. */
public final class LanguageTest {
    private static int wrong;

    private static void ok(boolean so, String what) {
        if (!so) {
            wrong++;
            System.out.println("against the rules: " + what);
        }
    }

    /** Rule 1: the face, and nothing else that is not private; no private method has a public name. */
    private static void face() throws Exception {
        Set<String> face = new TreeSet<>(Arrays.asList("feed(IIIII)I", "end(I)Z", "beach()I", "fault(I)I", "has(I)I",
                "letter(III)I", "idea(II)I", "bather(II)I", "knows(II)I", "keeps(II)I", "plan(II)I", "kept(II)I",
                "tide(I)I", "later(III)I", "learns(II)I", "lasts(II)I", "course(III)I", "change(II)I", "match(I)I",
                "odds(II)I", "discover()I", "wits(I)I", "tells(II)I", "duck(II)I", "forget(II)Z", "send(III)Z",
                "hours(I)I", "chance(I)I", "undo()Z", "seed(I)Z", "ask()J", "image()I", "octet(I)I", "on()Z", "status(I)I"));
        Set<String> names = new TreeSet<>();
        Set<String> found = new TreeSet<>();
        for (Method m : DeepBathing.class.getDeclaredMethods()) {
            if (!Modifier.isPrivate(m.getModifiers())) {
                found.add(signature(m));
                names.add(m.getName());
            }
        }
        ok(found.equals(face), "1: the face is " + found);
        for (Class<?> c : classes()) {
            for (Method m : c.getDeclaredMethods()) {
                boolean own = c == DeepBathing.class && Modifier.isPublic(m.getModifiers());
                ok(own || !names.contains(m.getName()), "1: " + c + " has " + m.getName());
                ok(m.getParameterCount() <= 7, "11: parameters of " + m);
            }
        }
        Set<String> shown = new TreeSet<>();
        for (Field f : DeepBathing.class.getDeclaredFields()) {
            if (!Modifier.isPrivate(f.getModifiers())) {
                shown.add(f.getType() + " " + f.getName());
            }
        }
        ok(shown.equals(new TreeSet<>(Arrays.asList("int NONE", "long NOTHING"))), "1: " + shown);
        Constructor<?>[] made = DeepBathing.class.getDeclaredConstructors();
        ok(made.length == 1 && Modifier.isPublic(made[0].getModifiers()) && made[0].getParameterCount() == 0, "1: constructors");
        ok(Modifier.isFinal(DeepBathing.class.getModifiers()), "1: final");
    }

    private static String signature(Method m) {
        StringBuilder s = new StringBuilder(m.getName()).append('(');
        for (Class<?> p : m.getParameterTypes()) {
            s.append(p == int.class ? "I" : "?");
        }
        Class<?> r = m.getReturnType();
        return s.append(')').append(r == int.class ? "I" : r == boolean.class ? "Z" : r == long.class ? "J" : "?").toString();
    }

    private static List<Class<?>> classes() {
        List<Class<?>> all = new ArrayList<>();
        all.add(DeepBathing.class);
        all.addAll(Arrays.asList(DeepBathing.class.getDeclaredClasses()));
        return all;
    }

    /** Rules 2, 5 and 11: classes inside are static, static fields are constants, sizes. */
    private static void classesInside() {
        ok(classes().size() <= 12, "11: classes");
        for (Class<?> c : classes()) {
            ok(c == DeepBathing.class || Modifier.isStatic(c.getModifiers()), "2: " + c);
            ok(c == DeepBathing.class || c.getDeclaredClasses().length == 0, "2: classes in " + c);
            int fields = 0;
            for (Field f : c.getDeclaredFields()) {
                if (Modifier.isStatic(f.getModifiers())) {
                    ok(Modifier.isFinal(f.getModifiers()), "5: " + f);
                } else {
                    fields++;
                }
            }
            ok(fields <= 20, "11: " + fields + " fields in " + c);
        }
    }

    private static void source() throws Exception {
        byte[] bytes = Files.readAllBytes(Paths.get("src/main/java/DeepBathing.java"));
        for (byte b : bytes) {
            ok(b == '\n' || b >= 32, "3: a sign " + b);
        }
        String source = new String(bytes, StandardCharsets.ISO_8859_1);
        String code = source.replaceAll("(?s)/\\*.*?\\*/", "").replaceAll("//[^\n]*", "").replaceAll("\"[^\"\n]*\"", "\"\"");
        for (String word : Arrays.asList("throw", "throws", "try", "catch", "finally", "synchronized", "assert", "import",
                "package", "volatile", "transient", "native", "System\\.out", "Exact", "toString", "hashCode", "var", "yield")) {
            Matcher m = Pattern.compile("\\b" + word + "\\b").matcher(code);
            ok(!m.find(), "the word " + word);
        }
        for (String sign : Arrays.asList("->", "::", "@", "while (true)", "for (;;)", "\"\" +", "+ \"\"")) {
            ok(!code.contains(sign), "the sign " + sign);
        }
        String[] lines = code.split("\n");
        int from = -1;
        String end = "";
        for (int k = 0; k < lines.length; k++) {
            String line = lines[k];
            // rule 12: nothing is made in a call, all in constructors
            ok(!line.contains("new ") || line.contains("private ") || line.contains("this.formulas = ")
                    || line.contains("moments[k] = new Moment()"), "12: " + line);
            if (from < 0 && line.matches(" {4,8}[^ }].*\\) \\{")) {
                from = k;
                end = line.replaceAll("[^ ].*", "}");
            } else if (from >= 0 && line.equals(end)) {
                ok(k - from < 60, "11: a long method ends at line " + k);
                from = -1;
            }
        }
    }

    public static void main(String[] args) throws Exception {
        face();
        classesInside();
        source();
        System.out.println(wrong == 0 ? "within the rules" : wrong + " against the rules");
        if (wrong != 0) {
            System.exit(1);
        }
    }
}
