import java.io.IOException;
import java.io.UncheckedIOException;
import java.nio.ByteBuffer;
import java.nio.charset.StandardCharsets;
import java.nio.file.Files;
import java.nio.file.Paths;
import java.util.Arrays;

/** What the tests by hand share: texts onto the tape, images, and the count of wrong answers. */
final class Asked {
    static final int NONE = DeepBathing.NONE;

    private static int wrong;
    private static int asked;
    private static String sentence = "";
    private static String document = "";

    private Asked() {
    }

    /** The words of the document whose boundary is asked for next; they have to stand there. */
    static void sentence(String words) {
        if (document.isEmpty()) {
            document = blanksAsOne(readDocument());
        }
        sentence = words;
        due("the document has these words", true, document.contains(blanksAsOne(words)));
    }

    private static String readDocument() {
        try {
            return new String(Files.readAllBytes(Paths.get("../shared/DOC.md")), StandardCharsets.UTF_8);
        } catch (IOException e) {
            throw new UncheckedIOException(e);
        }
    }

    private static String blanksAsOne(String text) {
        return text.replaceAll("\\s+", " ");
    }

    static void due(String what, long want, long got) {
        asked++;
        if (got != want) {
            wrong++;
            String of = sentence.isEmpty() ? "" : "«" + sentence + "» ";
            System.out.println(of + what + ": answered " + got + ", due is " + want);
        }
    }

    static void due(String what, boolean want, boolean got) {
        due(what, want ? 1 : 0, got ? 1 : 0);
    }

    static void put(DeepBathing x, byte[] bytes) {
        ByteBuffer in = ByteBuffer.wrap(Arrays.copyOf(bytes, (bytes.length + 19) / 20 * 20));
        while (in.hasRemaining()) {
            x.feed(in.getInt(), in.getInt(), in.getInt(), in.getInt(), in.getInt());
        }
        due("end(" + bytes.length + ")", true, x.end(bytes.length));
    }

    static void put(DeepBathing x, String text) {
        put(x, text.getBytes(StandardCharsets.ISO_8859_1));
    }

    static void put(DeepBathing x, int... octets) {
        byte[] bytes = new byte[octets.length];
        for (int k = 0; k < octets.length; k++) {
            bytes[k] = (byte) octets[k];
        }
        put(x, bytes);
    }

    /** A new object with a BEACH that has no FAULT. */
    static DeepBathing told(String text) {
        DeepBathing x = new DeepBathing();
        put(x, text);
        x.beach();
        due("fault(0) of " + text, 0, x.fault(0));
        return x;
    }

    static long ask(DeepBathing x, String text) {
        put(x, text);
        return x.ask();
    }

    /** The FAULT of a BEACH on a new object, and its place: 0 and NONE without. */
    static void beach(String text, int fault, int place) {
        DeepBathing x = new DeepBathing();
        put(x, text);
        int told = x.beach();
        due("fault of '" + text + "'", fault, x.fault(0));
        due("place of '" + text + "'", place, x.fault(1));
        due("refused '" + text + "'", fault == 0, told != NONE);
        due("counted '" + text + "'", fault == 0 ? 0 : 1, x.status(1));
    }

    /** The FAULT of a QUESTION on a new object, and its place: 0 and NONE without. */
    static void question(String text, int fault, int place) {
        DeepBathing x = new DeepBathing();
        long answer = ask(x, text);
        due("fault of '" + text + "'", fault, x.fault(0));
        due("place of '" + text + "'", place, x.fault(1));
        due("nothing of '" + text + "'", fault != 0, answer == DeepBathing.NOTHING);
    }

    /** A FAULT behind a text that is good. */
    static void behind(String good, String bad, int fault, int on) {
        beach(good, 0, NONE);
        beach(good + bad, fault, good.length() + on);
    }

    static String times(int n, String text) {
        StringBuilder s = new StringBuilder();
        for (int k = 0; k < n; k++) {
            s.append(text);
        }
        return s.toString();
    }

    /** IDEAS ia, ib, and so on. */
    static String ideas(int n, int depth) {
        StringBuilder s = new StringBuilder();
        for (int k = 0; k < n; k++) {
            s.append("idea i").append((char) ('a' + k)).append(" depth ").append(depth).append(';');
        }
        return s.toString();
    }

    /** BATHERS ba, bb, and so on, with lung 0 and wits 0. */
    static String bathers(int n) {
        StringBuilder s = new StringBuilder();
        for (int k = 0; k < n; k++) {
            s.append("bather b").append((char) ('a' + k)).append(" lung 0 wits 0;");
        }
        return s.toString();
    }

    /** Each of the IDEAS ia, ib, and so on NEEDS the one ahead of it. */
    static String chain(int n) {
        StringBuilder s = new StringBuilder(ideas(n, 0));
        for (int k = 1; k < n; k++) {
            s.append("need i").append((char) ('a' + k - 1)).append(" for i").append((char) ('a' + k)).append(';');
        }
        return s.toString();
    }

    /** The bytes of AN IMAGE, of all that is ahead of its last one. */
    static int[] image(int... ahead) {
        int check = 239;
        for (int octet : ahead) {
            check = (3 * check + octet) % 251;
        }
        int[] image = Arrays.copyOf(ahead, ahead.length + 1);
        image[ahead.length] = check;
        return image;
    }

    /** By an image all is as it is, but for the HOUR; nothing is KEPT any more or can be undone. */
    static DeepBathing at(DeepBathing x, int hour) {
        int[] ahead = new int[x.image() - 1];
        for (int k = 0; k < ahead.length; k++) {
            ahead[k] = x.octet(k);
        }
        ahead[0] = hour / 256;
        ahead[1] = hour % 256;
        put(x, image(ahead));
        due("on() at HOUR " + hour, true, x.on());
        due("it is HOUR " + hour, hour, x.has(4));
        return x;
    }

    static void end() {
        System.out.println(asked + " asked, " + wrong + " wrong");
        if (wrong != 0) {
            System.exit(1);
        }
    }
}
