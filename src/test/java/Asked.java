import java.nio.ByteBuffer;
import java.nio.charset.StandardCharsets;
import java.util.Arrays;

/** What the tests by hand share: texts onto the tape, and the count of wrong answers. */
final class Asked {
    static int wrong;
    static int asked;

    private Asked() {
    }

    static void due(String what, long want, long got) {
        asked++;
        if (got != want) {
            wrong++;
            System.out.println(what + ": answered " + got + ", due is " + want);
        }
    }

    static void due(String what, boolean want, boolean got) {
        due(what, want ? 1 : 0, got ? 1 : 0);
    }

    static void put(DeepBathing x, byte[] bytes) {
        ByteBuffer in = ByteBuffer.wrap(Arrays.copyOf(bytes, (bytes.length + 19) / 20 * 20));
        while (in.hasRemaining()) {
            x.feed(in.getInt(), in.getInt(), in.getInt(), in.getInt(), in.getInt());
        }
        due("end(" + bytes.length + ")", true, x.end(bytes.length));
    }

    static void put(DeepBathing x, String text) {
        put(x, text.getBytes(StandardCharsets.ISO_8859_1));
    }

    static void put(DeepBathing x, int... octets) {
        byte[] bytes = new byte[octets.length];
        for (int k = 0; k < octets.length; k++) {
            bytes[k] = (byte) octets[k];
        }
        put(x, bytes);
    }

    /** A new object with a BEACH that has no FAULT. */
    static DeepBathing told(String text) {
        DeepBathing x = new DeepBathing();
        put(x, text);
        x.beach();
        due("fault(0) of " + text, 0, x.fault(0));
        return x;
    }

    static long ask(DeepBathing x, String text) {
        put(x, text);
        return x.ask();
    }

    static void end() {
        System.out.println(asked + " asked, " + wrong + " wrong");
        if (wrong != 0) {
            System.exit(1);
        }
    }
}
