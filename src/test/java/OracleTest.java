import java.nio.charset.StandardCharsets;
import java.util.ArrayList;
import java.util.Arrays;
import java.util.List;
import java.util.Random;

/** Runs of calls, drawn by a fixed seed, on DeepBathing and on the Oracle: both have to answer the same. */
public final class OracleTest {
    private final Random random;
    private final DeepBathing x = new DeepBathing();
    private final Oracle o = new Oracle();
    private final List<String> calls = new ArrayList<>();
    private static final int[] faultsSeen = new int[6];
    private static int wrong;
    private int lastOdd;

    private OracleTest(long seed) { random = new Random(seed); }

    private int pick(int n) { return random.nextInt(n); }
    private String any(String... of) { return of[pick(of.length)]; }

    private void same(String call, long got, long want) {
        calls.add(call + " = " + want);
        if (got != want) {
            wrong++;
            System.out.println(String.join("\n", calls));
            System.out.println("  last call answered " + got + ", the oracle " + want);
            throw new IllegalStateException();
        }
    }
    private void same(String call, boolean got, boolean want) { same(call, got ? 1 : 0, want ? 1 : 0); }

    private void put(byte[] bytes) {
        byte[] padded = Arrays.copyOf(bytes, (bytes.length + 19) / 20 * 20);
        java.nio.ByteBuffer in = java.nio.ByteBuffer.wrap(padded);
        while (in.hasRemaining()) {
            int[] v = {in.getInt(), in.getInt(), in.getInt(), in.getInt(), in.getInt()};
            same("feed", x.feed(v[0], v[1], v[2], v[3], v[4]), o.feed(v[0], v[1], v[2], v[3], v[4]));
        }
        same("end(" + bytes.length + ")", x.end(bytes.length), o.end(bytes.length));
        calls.add("TAPE " + new String(bytes, StandardCharsets.ISO_8859_1) + " " + Arrays.toString(bytes));
    }

    // ---- texts

    private String sum(String kind, int deep) {
        StringBuilder s = new StringBuilder(product(kind, deep));
        for (int k = pick(3); k > 0; k--) s.append(any("+", "-", " + ", "- ")).append(product(kind, deep));
        return s.toString();
    }
    private String product(String kind, int deep) {
        StringBuilder s = new StringBuilder(part(kind, deep));
        for (int k = pick(4) / 2; k > 0; k--) s.append(any("*", "/", " / ")).append(part(kind, deep));
        return s.toString();
    }
    private String part(String kind, int deep) {
        int c = pick(deep > 0 ? 8 : 6);
        if (c < 2) return "" + (pick(9) == 0 ? pick(10000) : pick(12));
        if (c == 6) return "(" + sum(kind, deep - 1) + ")";
        if (c == 7) {
            if (kind.equals("question") && pick(2) == 0) return any("knows ", "ready ", "knows\n") + part(kind, deep - 1);
            return any("min(", "max (") + sum(kind, deep - 1) + any(",", " , ") + sum(kind, deep - 1) + ")";
        }
        switch (kind) {
            case "tide": return "hour";
            case "fades": return any("hour", "depth", "wits", "known", "strength", "strength", "rooted");
            case "question": return any("number", "lung", "wits", "known", "hour", "tide", "knows 0", "knows 1", "knows number", "ready 0", "ready number");
            default: return any("hour", "depth", "wits", "known", "lung", "tide");
        }
    }
    private String test(String kind, int deep) {
        StringBuilder s = new StringBuilder(fact(kind, deep));
        for (int k = pick(3); k > 0; k--) s.append(any(" and ", " or ")).append(fact(kind, deep));
        return s.toString();
    }
    private String fact(String kind, int deep) {
        int c = pick(deep > 0 ? 8 : 6);
        if (c == 0) return "all";
        if (c == 6) return "not " + fact(kind, deep - 1);
        if (c == 7) return "[" + test(kind, deep - 1) + "]";
        return sum(kind, deep) + any("<", ">", "=", " < ") + sum(kind, deep);
    }
    private String name(int k, boolean idea) {
        String[] names = idea ? new String[] {"a", "be", "sea", "deep", "floor", "kelpie", "g", "hh", "ii"}
                : new String[] {"tom", "ann", "z", "snarks", "qq", "baker", "yes"};
        return names[k % names.length];
    }
    private String beachText() {
        int ideas = pick(9);
        int bathers = pick(10) == 0 ? 0 : 1 + pick(6);
        StringBuilder s = new StringBuilder();
        for (int i = 0; i < ideas; i++) s.append("idea ").append(name(i, true)).append(" depth ").append(pick(10)).append(";");
        for (int b = 0; b < bathers; b++)
            s.append("bather ").append(name(b, false)).append(" lung ").append(pick(10)).append("\nwits ").append(pick(10)).append(" ; ");
        List<String> more = new ArrayList<>();
        for (int i = 0; i < ideas; i++)
            for (int j = i + 1; j < ideas; j++)
                if (pick(5) == 0 && more.size() < 16) more.add("need " + name(i, true) + " for " + name(j, true) + ";");
        if (bathers > 0 && ideas > 0)
            for (int k = pick(17); k > 0; k--) more.add("plan " + name(pick(bathers), false) + " in " + name(pick(ideas), true) + ";");
        if (pick(2) == 0) more.add(any("tide hour;", "tide 4+hour-hour/6*6;", "tide " + sum("tide", 2) + ";"));
        if (pick(2) == 0) more.add(any("keeps wits*3+known;", "keeps " + sum("keeps", 2) + ";", "keeps " + sum("keeps", 2) + ";"));
        if (pick(2) == 0) more.add(any("fades strength-1-depth/2;", "fades strength-depth-1+rooted;", "fades strength-2+" + part("fades", 1) + ";", "fades " + sum("fades", 2) + ";"));
        if (pick(2) == 0) more.add(any("bears lung+wits>depth;", "bears " + test("bears", 2) + ";"));
        if (pick(2) == 0) more.add("squall " + pick(101) + ";");
        java.util.Collections.shuffle(more, random);
        for (String m : more) s.append(m);
        return s.length() > 1600 ? "" : s.toString();
    }
    private String questionText() {
        if (pick(2) == 0) return any("first ", "last ", "often ") + test("question", 3);
        return any("total ", "most ", "least ") + sum("question", 3);
    }
    private byte[] spoil(String text) {
        StringBuilder s = new StringBuilder(text);
        for (int k = 1 + pick(2); k > 0; k--) {
            int at = s.length() == 0 ? 0 : pick(s.length());
            int c = pick(7);
            if (c == 0 && s.length() > 0) s.deleteCharAt(at);
            else if (c == 1) s.insert(at, any("(", "[", "not ", "((((((((", "[[[[", "not not not ", "knows knows ", "min(", ")", "]", ",", ";"));
            else if (c == 2) s.insert(at, any("1", "12345", "99", "x", "abcdefg", " ", "\n", "\t", "\u00e9", "A", "strength", " in ", " for "));
            else if (c == 3) s.setLength(at);
            else if (c == 4 && s.length() > 0) s.setCharAt(at, any(";", " ", "z", "7", "<", "*", "_").charAt(0));
            else if (c == 5) s.append(any(" x", ";", "idea q depth 1;", "idea a depth 0;", "bather a lung 0 wits 0;", "need a for be;", "need be for a;", "plan tom in a;", "plan a in tom;", "tide 1;", "keeps 1;", "bears all;", "squall 101;", "squall 7;"));
            else for (int n = pick(62); n > 0 && s.length() < 1500; n--) s.append("squall 1;");
        }
        if (s.length() > 1600) s.setLength(1600);
        return s.toString().getBytes(StandardCharsets.ISO_8859_1);
    }

    // ---- calls

    private void tellBeach() {
        String text = beachText();
        put(pick(3) == 0 ? spoil(text) : text.getBytes(StandardCharsets.ISO_8859_1));
        same("beach()", x.beach(), o.beach());
        faults();
    }
    private void faults() {
        same("fault(0)", x.fault(0), o.fault(0));
        same("fault(1)", x.fault(1), o.fault(1));
        faultsSeen[o.fault(0)]++;
    }
    private void ask() {
        String text = questionText();
        put(pick(4) == 0 ? spoil(text) : text.getBytes(StandardCharsets.ISO_8859_1));
        same("ask()", x.ask(), o.ask());
        faults();
    }
    private void discover() {
        int rows = 1 + pick(3);
        byte[] t = new byte[pick(20) == 0 ? pick(70) : 4 * rows];
        int who = pick(7);
        for (int k = 0; k + 3 < t.length; k += 4) {
            int b = pick(3) > 0 ? who : pick(7);
            int i = pick(9);
            int n = pick(10) == 0 ? pick(40) : pick(12);
            // what is so, for some wits, so that wits() is seldom empty
            int v = o.later(b, i, n);
            if (!o.no(b, i) && n <= 30 && o.comes(n, 0, 60) && pick(2) == 0) {
                Oracle.World w = o.now.copy();
                w.wits[b] = pick(10);
                v = w.behind(n).strong[b][i];
            }
            if (v < 0 || pick(30) == 0) v = pick(110);
            t[k] = (byte) n;
            t[k + 1] = (byte) b;
            t[k + 2] = (byte) i;
            t[k + 3] = (byte) v;
        }
        put(t);
        same("discover()", x.discover(), o.discover());
    }
    private void on() {
        Oracle other = new Oracle();
        other.told = o.told;
        other.now = o.now.copy();
        other.now.hour = pick(3) == 0 ? 999 - pick(70) : pick(1000);
        for (int[] r : other.now.strong) for (int i = 0; i < r.length; i++) if (pick(2) == 0) r[i] = pick(pick(60) == 0 ? 102 : 100);
        for (int[] r : other.now.plan) { r[0] = pick(pick(60) == 0 ? 7 : o.told.bathers.size()); r[1] = pick(pick(60) == 0 ? 9 : o.told.ideas.size()); }
        if (pick(20) == 0) other.now.hour = 990 + pick(20);
        other.image();
        byte[] t = other.written;
        if (pick(6) == 0) t[pick(t.length)] ^= (byte) (1 << pick(8));
        if (pick(20) == 0) t = Arrays.copyOf(t, t.length + pick(3));
        put(t);
        same("on()", x.on(), o.on());
    }
    /** Now and then a number far away from all that can be. */
    private int odd(int usual) {
        int[] far = {Integer.MIN_VALUE, Integer.MAX_VALUE, Integer.MIN_VALUE + 1, -256, 256, 1 << 30, 999, 65536};
        lastOdd = pick(40) == 0 ? far[pick(far.length)] : usual;
        return lastOdd;
    }
    private void call(boolean dear) {
        int b = odd(pick(8) == 0 ? pick(8) - 1 : pick(Math.max(1, o.told.bathers.size())));
        int i = odd(pick(8) == 0 ? pick(10) - 1 : pick(Math.max(1, o.told.ideas.size())));
        int k = odd(pick(7) - 1);
        int which = pick(34);
        int n;
        switch (which) {
            case 0: same("has(" + (n = odd(pick(13) - 1)) + ")", x.has(n), o.has(n)); return;
            case 1: same("letter", x.letter(odd(pick(4) - 1), b, i), o.letter(lastOdd, b, i)); return;
            case 2: same("idea(" + i + ", " + k + ")", x.idea(i, k), o.idea(i, k)); return;
            case 3: same("bather(" + b + ", " + k + ")", x.bather(b, k), o.bather(b, k)); return;
            case 4: same("knows(" + b + ", " + i + ")", x.knows(b, i), o.knows(b, i)); return;
            case 5: same("keeps(" + b + ", " + i + ")", x.keeps(b, i), o.keeps(b, i)); return;
            case 6: same("plan", x.plan(n = odd(pick(18) - 1), k), o.plan(n, k)); return;
            case 7: same("kept", x.kept(n = odd(pick(42) - 1), k), o.kept(n, k)); return;
            case 8: same("tide", x.tide(n = odd(pick(64) - 1)), o.tide(n)); return;
            case 9: same("later(" + b + ", " + i + ", " + (n = odd(pick(64) - 1)) + ")", x.later(b, i, n), o.later(b, i, n)); return;
            case 10: same("learns(" + b + ", " + i + ")", x.learns(b, i), o.learns(b, i)); return;
            case 11: same("lasts(" + b + ", " + i + ")", x.lasts(b, i), o.lasts(b, i)); return;
            case 12: if (dear) same("course(" + b + ", " + i + ", " + k + ")", x.course(b, i, k), o.course(b, i, k)); return;
            case 13: if (dear) same("change(" + (n = odd(pick(33) - 1)) + ", " + k + ")", x.change(n, k), o.change(n, k)); return;
            case 14: if (dear) same("match(" + k + ")", x.match(k), o.match(k)); return;
            case 15: same("odds(" + b + ", " + i + ")", x.odds(b, i), o.odds(b, i)); return;
            case 16: discover(); return;
            case 17: same("wits(" + b + ")", x.wits(b), o.wits(b)); return;
            case 18: same("tells(" + b + ", " + k + ")", x.tells(b, k), o.tells(b, k)); return;
            case 19: case 20: same("duck(" + b + ", " + i + ")", x.duck(b, i), o.duck(b, i)); return;
            case 21: same("forget(" + b + ", " + i + ")", x.forget(b, i), o.forget(b, i)); return;
            case 22: same("send(" + k + ", " + b + ", " + i + ")", x.send(k, b, i), o.send(k, b, i)); return;
            case 23: case 24: n = odd(pick(5) == 0 ? pick(103) - 1 : pick(6)); same("hours(" + n + ")", x.hours(n), o.hours(n)); return;
            case 25: case 26: n = odd(pick(5) == 0 ? pick(103) - 1 : pick(6)); same("chance(" + n + ")", x.chance(n), o.chance(n)); return;
            case 27: same("undo()", x.undo(), o.undo()); return;
            case 28: n = pick(4) == 0 ? odd(-pick(9)) : random.nextInt() & 0x7fffffff; same("seed(" + n + ")", x.seed(n), o.seed(n)); return;
            case 29: ask(); return;
            case 30:
                same("image()", x.image(), o.image());
                for (int j = -1; j <= o.written.length; j++) same("octet(" + j + ")", x.octet(j), o.octet(j));
                return;
            case 31: if (pick(4) == 0) on(); return;
            case 32: for (n = -1; n < 7; n++) same("status(" + n + ")", x.status(n), o.status(n)); return;
            default: same("end(" + k + ")", x.end(k), o.end(k)); return;
        }
    }
    private void runCalls(boolean dear) {
        for (int k = 0; k < 3; k++) {
            tellBeach();
            for (int n = 0; n < 60; n++) call(dear);
        }
    }
    private void runTexts() {
        for (int k = 0; k < 8; k++) {
            tellBeach();
            for (int n = pick(4); n > 0; n--) ask();
        }
    }

    public static void main(String[] args) {
        int times = args.length > 0 ? Integer.parseInt(args[0]) : 1;
        long first = args.length > 1 ? Long.parseLong(args[1]) : 0;
        try {
            for (long s = first; s < first + 400L * times; s++) new OracleTest(s).runCalls(s % 8 == 0);
            for (long s = first; s < first + 3750L * times; s++) new OracleTest(s).runTexts();
        } catch (IllegalStateException e) {
            if (wrong == 0) throw e;
        }
        System.out.println("faults met: " + Arrays.toString(faultsSeen));
        System.out.println(wrong == 0 ? "both answer the same" : "the two differ");
        if (wrong != 0) System.exit(1);
    }
}
