import java.util.ArrayList;
import java.util.Arrays;
import java.util.HashMap;
import java.util.List;
import java.util.Map;

/**
 * The document told a second time, in the dullest way: all of a beach is run for every question, and
 * everything is tried. It has the face of DeepBathing, so that both can be asked the same.
 */
final class Oracle {
    static final class Fault extends RuntimeException {
        private static final long serialVersionUID = 1;
        final int what;
        final int where;
        Fault(int what, int where) { this.what = what; this.where = where; }
    }

    static final class Token {
        final char sort; // w word, n number, s sign, e end
        final String text;
        final int at;
        final boolean glued;
        Token(char sort, String text, int at, boolean glued) { this.sort = sort; this.text = text; this.at = at; this.glued = glued; }
    }

    interface Form { long of(Map<String, Long> seen, World w, int bather); }

    static final List<String> OWN = Arrays.asList("idea", "depth", "need", "for", "bather", "lung", "wits", "plan", "in",
            "tide", "keeps", "fades", "bears", "squall", "hour", "known", "strength", "rooted", "number", "knows", "ready",
            "or", "and", "not", "all", "min", "max");

    static final class Told {
        final List<String> ideas = new ArrayList<>();
        final List<Integer> depth = new ArrayList<>();
        final List<int[]> needs = new ArrayList<>();
        final List<String> bathers = new ArrayList<>();
        final List<Integer> lung = new ArrayList<>();
        final List<Integer> wits = new ArrayList<>();
        final List<int[]> plan = new ArrayList<>();
        final Map<String, Form> forms = new HashMap<>();
        int squall;
        int statements;

        Form form(String name) {
            if (forms.containsKey(name)) return forms.get(name);
            switch (name) {
                case "tide": return (s, w, b) -> 9;
                case "keeps": return (s, w, b) -> 20 + s.get("wits") * 5 - s.get("depth");
                case "fades": return (s, w, b) -> s.get("strength") - 1;
                default: return (s, w, b) -> 1;
            }
        }
        boolean needs(int idea, int other) {
            for (int[] n : needs) if (n[0] == other && n[1] == idea) return true;
            return false;
        }
    }

    /** All that can be simulated, with the WITS that are supposed. */
    static final class World {
        final Told told;
        int hour;
        int[][] strong;
        int[][] plan;
        int[] wits;
        List<int[]> kept = new ArrayList<>();

        World(Told told) {
            this.told = told;
            strong = new int[told.bathers.size()][told.ideas.size()];
            plan = new int[told.plan.size()][];
            for (int k = 0; k < plan.length; k++) plan[k] = told.plan.get(k).clone();
            wits = new int[told.bathers.size()];
            for (int b = 0; b < wits.length; b++) wits[b] = told.wits.get(b);
        }
        World copy() {
            World w = new World(told);
            w.hour = hour;
            for (int b = 0; b < strong.length; b++) w.strong[b] = strong[b].clone();
            for (int k = 0; k < plan.length; k++) w.plan[k] = plan[k].clone();
            w.wits = wits.clone();
            for (int[] k : kept) w.kept.add(k.clone());
            return w;
        }
        int tide() {
            Map<String, Long> s = new HashMap<>();
            s.put("hour", (long) hour);
            return clamp(told.form("tide").of(s, this, NONE), 0, 9);
        }
        int known(int b) {
            int n = 0;
            for (int v : strong[b]) if (v > 0) n++;
            return n;
        }
        boolean rooted(int b, int i) {
            for (int j = 0; j < told.ideas.size(); j++) if (told.needs(i, j) && strong[b][j] == 0) return false;
            return true;
        }
        Map<String, Long> see(int b, int i, int tide) {
            Map<String, Long> s = new HashMap<>();
            s.put("hour", (long) hour);
            s.put("depth", (long) told.depth.get(i));
            s.put("wits", (long) wits[b]);
            s.put("known", (long) known(b));
            s.put("lung", (long) told.lung.get(b));
            s.put("tide", (long) tide);
            s.put("strength", (long) strong[b][i]);
            s.put("rooted", rooted(b, i) ? 1L : 0L);
            return s;
        }
        boolean ready(int b, int i, int tide) {
            return told.depth.get(i) <= tide && rooted(b, i) && told.form("bears").of(see(b, i, tide), this, b) != 0;
        }
        int keep(int b, int i, int tide) { return clamp(told.form("keeps").of(see(b, i, tide), this, b), 1, 99); }

        /** who: the one BATHER who is planned to be ducked in what; both NONE for nobody. */
        boolean pass(int who, int what, int tide) {
            boolean ducked = who != NONE && what != NONE && ready(who, what, tide);
            if (ducked) {
                strong[who][what] = keep(who, what, tide);
                kept.add(new int[] {hour, who, what, strong[who][what]});
            }
            int[][] next = new int[strong.length][];
            for (int b = 0; b < strong.length; b++) {
                next[b] = strong[b].clone();
                for (int i = 0; i < next[b].length; i++) {
                    if (strong[b][i] == 0 || ducked && b == who && i == what) continue;
                    next[b][i] = clamp(told.form("fades").of(see(b, i, tide), this, b), 0, 99);
                }
            }
            strong = next;
            hour++;
            return ducked;
        }
        boolean passPlanned(int tide) {
            if (plan.length == 0) return pass(NONE, NONE, tide);
            int[] row = plan[hour % plan.length];
            return pass(row[0], row[1], tide);
        }
        World behind(int n) {
            World w = copy();
            for (int k = 0; k < n; k++) w.passPlanned(w.tide());
            return w;
        }
        int all() {
            int n = 0;
            for (int[] r : strong) for (int v : r) n += v;
            return n;
        }
    }

    static final int NONE = -1;
    byte[] tape = new byte[0];
    Told told = new Told();
    World now = new World(told);
    List<World> past = new ArrayList<>();
    List<int[]> found = new ArrayList<>();
    byte[] written = new byte[0];
    int[] refused = new int[6];
    int fault;
    int place = NONE;
    long seed = 1;

    static int clamp(long v, long lo, long hi) { return (int) (v < lo ? lo : v > hi ? hi : v); }
    static long hold(long v) { return v > 1000000 ? 1000000 : v < -1000000 ? -1000000 : v; }
    int refuse(int k) { refused[k]++; return NONE; }

    // ---- texts

    static final class Parser {
        final List<Token> tokens = new ArrayList<>();
        int k;
        boolean question;
        String kind;
        Told t = new Told();

        Parser(byte[] text) {
            int at = 0;
            boolean glued = false;
            while (at < text.length) {
                char c = (char) (text[at] & 255);
                int from = at;
                if (c == ' ' || c == '\n') { at++; glued = false; continue; }
                char sort = 's';
                at++;
                if (c >= 'a' && c <= 'z') {
                    sort = 'w';
                    while (at < text.length && text[at] >= 'a' && text[at] <= 'z') at++;
                } else if (c >= '0' && c <= '9') {
                    sort = 'n';
                    while (at < text.length && text[at] >= '0' && text[at] <= '9') at++;
                }
                boolean bad = glued && !tokens.isEmpty() && sort != 's' && tokens.get(tokens.size() - 1).sort != 's';
                StringBuilder s = new StringBuilder();
                for (int j = from; j < at; j++) s.append((char) (text[j] & 255));
                tokens.add(new Token(sort, s.toString(), from, bad));
                glued = true;
            }
            tokens.add(new Token('e', "", text.length, false));
        }
        Token t() { return tokens.get(k); }
        Token see() {
            if (t().glued) throw new Fault(1, t().at);
            return t();
        }
        boolean is(String s) { return see().text.equals(s); }
        boolean eat(String s) {
            if (!is(s)) return false;
            k++;
            return true;
        }
        void must(String s) { if (!eat(s)) throw new Fault(1, see().at); }
        int number(int most) {
            Token n = see();
            if (n.sort != 'n') throw new Fault(1, n.at);
            if (n.text.length() > 4) throw new Fault(1, n.at + 4);
            int v = Integer.parseInt(n.text);
            if (v > most) throw new Fault(2, n.at);
            k++;
            return v;
        }
        Token name() {
            Token n = see();
            if (n.sort != 'w' || OWN.contains(n.text)) throw new Fault(1, n.at);
            if (n.text.length() > 6) throw new Fault(1, n.at + 6);
            k++;
            return n;
        }
        Token fresh() {
            Token n = name();
            if (t.ideas.contains(n.text) || t.bathers.contains(n.text)) throw new Fault(3, n.at);
            return n;
        }
        int told(List<String> names) {
            Token n = name();
            int which = names.indexOf(n.text);
            if (which < 0) throw new Fault(3, n.at);
            return which;
        }
        void room(int there, int most, int at) { if (there >= most) throw new Fault(5, at); }

        Told beach() {
            while (see().sort != 'e') {
                if (t.statements == 60) throw new Fault(5, see().at);
                statement();
                must(";");
                t.statements++;
            }
            return t;
        }
        void statement() {
            Token first = see();
            k++;
            switch (first.text) {
                case "idea": {
                    room(t.ideas.size(), 8, first.at);
                    String n = fresh().text;
                    must("depth");
                    t.depth.add(number(9));
                    t.ideas.add(n);
                    return;
                }
                case "bather": {
                    room(t.bathers.size(), 6, first.at);
                    String n = fresh().text;
                    must("lung");
                    t.lung.add(number(9));
                    must("wits");
                    t.wits.add(number(9));
                    t.bathers.add(n);
                    return;
                }
                case "need": {
                    room(t.needs.size(), 16, first.at);
                    int one = told(t.ideas);
                    must("for");
                    int at = see().at;
                    int two = told(t.ideas);
                    if (two <= one || t.needs(two, one)) throw new Fault(3, at);
                    t.needs.add(new int[] {one, two});
                    return;
                }
                case "plan": {
                    room(t.plan.size(), 16, first.at);
                    int b = told(t.bathers);
                    must("in");
                    t.plan.add(new int[] {b, told(t.ideas)});
                    return;
                }
                case "squall":
                    t.squall = number(100);
                    return;
                case "tide": case "keeps": case "fades": case "bears":
                    if (t.forms.containsKey(first.text)) throw new Fault(5, first.at);
                    kind = first.text;
                    t.forms.put(first.text, kind.equals("bears") ? test(0) : sum(0));
                    return;
                default:
                    throw new Fault(1, first.at);
            }
        }
        Form test(int open) {
            Form f = both(open);
            while (eat("or")) { Form a = f; Form b = both(open); f = (s, w, x) -> a.of(s, w, x) != 0 || b.of(s, w, x) != 0 ? 1 : 0; }
            return f;
        }
        Form both(int open) {
            Form f = fact(open);
            while (eat("and")) { Form a = f; Form b = fact(open); f = (s, w, x) -> a.of(s, w, x) != 0 && b.of(s, w, x) != 0 ? 1 : 0; }
            return f;
        }
        int opened(int open) {
            if (open == 6) throw new Fault(4, see().at);
            k++;
            return open + 1;
        }
        Form fact(int open) {
            if (is("not")) { Form a = fact(opened(open)); return (s, w, x) -> a.of(s, w, x) == 0 ? 1 : 0; }
            if (is("[")) { Form a = test(opened(open)); must("]"); return a; }
            if (eat("all")) return (s, w, x) -> 1;
            Form a = sum(open);
            Token sign = see();
            if (!sign.text.equals("<") && !sign.text.equals(">") && !sign.text.equals("=")) throw new Fault(1, sign.at);
            k++;
            Form b = sum(open);
            return (s, w, x) -> {
                int c = Long.compare(a.of(s, w, x), b.of(s, w, x));
                return (sign.text.equals("<") ? c < 0 : sign.text.equals(">") ? c > 0 : c == 0) ? 1 : 0;
            };
        }
        Form sum(int open) {
            Form f = product(open);
            for (;;) {
                Form a = f;
                if (eat("+")) { Form b = product(open); f = (s, w, x) -> hold(a.of(s, w, x) + b.of(s, w, x)); }
                else if (eat("-")) { Form b = product(open); f = (s, w, x) -> hold(a.of(s, w, x) - b.of(s, w, x)); }
                else return f;
            }
        }
        Form product(int open) {
            Form f = part(open);
            for (;;) {
                Form a = f;
                if (eat("*")) { Form b = part(open); f = (s, w, x) -> hold(a.of(s, w, x) * b.of(s, w, x)); }
                else if (eat("/")) {
                    Form b = part(open);
                    f = (s, w, x) -> { long d = b.of(s, w, x); return d == 0 ? 0 : Math.floorDiv(a.of(s, w, x), d); };
                } else return f;
            }
        }
        List<String> sights() {
            if (question) return Arrays.asList("number", "lung", "wits", "known", "hour", "tide");
            switch (kind) {
                case "tide": return Arrays.asList("hour");
                case "fades": return Arrays.asList("hour", "depth", "wits", "known", "strength", "rooted");
                default: return Arrays.asList("hour", "depth", "wits", "known", "lung", "tide");
            }
        }
        Form part(int open) {
            Token p = see();
            if (p.sort == 'n') { int v = number(9999); return (s, w, x) -> v; }
            if (is("(")) { Form a = sum(opened(open)); must(")"); return a; }
            if (is("min") || is("max")) {
                k++;
                if (!is("(")) throw new Fault(1, see().at);
                int in = opened(open);
                Form a = sum(in);
                must(",");
                Form b = sum(in);
                must(")");
                return p.text.equals("min") ? (s, w, x) -> Math.min(a.of(s, w, x), b.of(s, w, x)) : (s, w, x) -> Math.max(a.of(s, w, x), b.of(s, w, x));
            }
            if (question && (is("knows") || is("ready"))) {
                Form a = part(opened(open));
                return (s, w, x) -> {
                    long i = a.of(s, w, x);
                    if (i < 0 || i >= w.told.ideas.size()) return 0;
                    if (p.text.equals("knows")) return w.strong[x][(int) i];
                    return w.ready(x, (int) i, w.tide()) ? 1 : 0;
                };
            }
            if (p.sort == 'w' && sights().contains(p.text)) { k++; return (s, w, x) -> s.get(p.text); }
            throw new Fault(1, p.at);
        }
    }

    // ---- the face

    int feed(int a, int b, int c, int d, int e) {
        if (tape.length + 20 > 1600) return refuse(0);
        byte[] next = Arrays.copyOf(tape, tape.length + 20);
        java.nio.ByteBuffer.wrap(next, tape.length, 20).putInt(a).putInt(b).putInt(c).putInt(d).putInt(e);
        tape = next;
        return tape.length;
    }
    boolean end(int n) {
        if (n < 0 || n > tape.length) { refuse(0); return false; }
        tape = Arrays.copyOf(tape, n);
        return true;
    }
    byte[] take() { byte[] t = tape; tape = new byte[0]; return t; }

    int beach() {
        byte[] text = take();
        fault = 0;
        place = NONE;
        try {
            told = new Parser(text).beach();
        } catch (Fault f) {
            fault = f.what;
            place = f.where;
            return refuse(1);
        }
        now = new World(told);
        past.clear();
        found.clear();
        return told.statements;
    }
    int fault(int what) { return what == 0 ? fault : what == 1 ? place : NONE; }
    int has(int what) {
        switch (what) {
            case 0: return told.ideas.size();
            case 1: return told.needs.size();
            case 2: return told.bathers.size();
            case 3: return told.plan.size();
            case 4: return now.hour;
            case 5: return now.tide();
            case 6: { int n = 0; for (int b = 0; b < now.strong.length; b++) n += now.known(b); return n; }
            case 7: return now.all();
            case 8: return Math.min(40, now.kept.size());
            case 9: return found.size();
            case 10: return past.size();
            default: return NONE;
        }
    }
    int letter(int kind, int which, int k) {
        List<String> names = kind == 0 ? told.ideas : kind == 1 ? told.bathers : new ArrayList<>();
        if (which < 0 || which >= names.size() || k < 0 || k > 5) return NONE;
        return k < names.get(which).length() ? names.get(which).charAt(k) - 96 : 0;
    }
    boolean no(int b, int i) { return b < 0 || b >= told.bathers.size() || i < 0 || i >= told.ideas.size(); }
    int idea(int i, int what) {
        if (i < 0 || i >= told.ideas.size()) return NONE;
        int bits = 0;
        switch (what) {
            case 0: return told.depth.get(i);
            case 1: for (int j = 0; j < 8; j++) if (told.needs(i, j)) bits |= 1 << j; return bits;
            case 2: {
                boolean[] in = new boolean[8];
                for (int round = 0; round < 9; round++)
                    for (int j = 0; j < 8; j++) for (int m = 0; m < 8; m++) if ((m == i || in[m]) && told.needs(m, j)) in[j] = true;
                for (int j = 0; j < 8; j++) if (in[j]) bits |= 1 << j;
                return bits;
            }
            case 3: for (int[] r : now.strong) if (r[i] > 0) bits++; return bits;
            default: return NONE;
        }
    }
    int bather(int b, int what) {
        if (b < 0 || b >= told.bathers.size()) return NONE;
        int bits = 0;
        switch (what) {
            case 0: return told.lung.get(b);
            case 1: return told.wits.get(b);
            case 2: for (int i = 0; i < told.ideas.size(); i++) if (now.strong[b][i] > 0) bits |= 1 << i; return bits;
            case 3: for (int i = 0; i < told.ideas.size(); i++) if (now.ready(b, i, now.tide())) bits |= 1 << i; return bits;
            case 4: for (int v : now.strong[b]) bits += v; return bits;
            default: return NONE;
        }
    }
    int knows(int b, int i) { return no(b, i) ? NONE : now.strong[b][i]; }
    int keeps(int b, int i) { return no(b, i) ? NONE : now.keep(b, i, now.tide()); }
    int plan(int k, int what) { return k < 0 || k >= now.plan.length || what < 0 || what > 1 ? NONE : now.plan[k][what]; }
    int kept(int k, int what) {
        int told = Math.min(40, now.kept.size());
        if (k < 0 || k >= told || what < 0 || what > 3) return NONE;
        return now.kept.get(now.kept.size() - told + k)[what];
    }
    boolean comes(int n, int least, int most) { return n >= least && n <= most && now.hour + n <= 999; }
    int tide(int n) {
        if (!comes(n, 0, 60)) return NONE;
        World w = now.copy();
        w.hour += n;
        return w.tide();
    }
    int later(int b, int i, int n) { return no(b, i) || !comes(n, 0, 60) ? NONE : now.behind(n).strong[b][i]; }
    int learns(int b, int i) {
        if (no(b, i)) return NONE;
        World w = now.copy();
        for (int n = 0; n <= 60 && now.hour + n <= 999; n++) {
            if (w.strong[b][i] > 0) return n;
            w.passPlanned(w.tide());
        }
        return NONE;
    }
    int lasts(int b, int i) {
        if (no(b, i) || now.strong[b][i] == 0) return NONE;
        int most = 0;
        World w = now.copy();
        for (int n = 0; n <= 60 && now.hour + n <= 999; n++) {
            if (w.strong[b][i] > 0) most = n;
            w.pass(NONE, NONE, w.tide());
        }
        return most;
    }
    /** Every row of every length, as numbers with a digit an HOUR. */
    int course(int b, int i, int k) {
        if (no(b, i)) return NONE;
        int base = told.ideas.size() + 1;
        for (int len = 0; len <= 4 && now.hour + len <= 999; len++) {
            int rows = (int) Math.round(Math.pow(base, len));
            for (int row = 0; row < rows; row++) {
                int[] digits = new int[len];
                int rest = row;
                for (int d = len - 1; d >= 0; d--) { digits[d] = rest % base - 1; rest /= base; }
                World w = now.copy();
                boolean ok = true;
                for (int d = 0; d < len && ok; d++) {
                    int tide = w.tide();
                    ok = digits[d] == NONE || w.ready(b, digits[d], tide);
                    if (ok) w.pass(b, digits[d], tide);
                }
                if (ok && w.strong[b][i] > 0) return k == NONE ? len : k >= 0 && k < len ? digits[k] : NONE;
            }
        }
        return NONE;
    }
    int change(int n, int what) {
        if (!comes(n, 1, 30) || what < 0 || what > 2) return NONE;
        int[] best = {NONE, NONE, now.behind(n).all()};
        for (int j = 0; j < now.plan.length; j++) {
            for (int k = j + 1; k < now.plan.length; k++) {
                World w = now.copy();
                int[] row = w.plan[j];
                w.plan[j] = w.plan[k];
                w.plan[k] = row;
                int sum = w.behind(n).all();
                if (sum > best[2]) best = new int[] {j, k, sum};
            }
        }
        return best[what];
    }
    int[] bestPicks;
    int bestSum;
    int match(int bather) {
        if (bather != NONE && (bather < 0 || bather >= told.bathers.size())) return NONE;
        bestPicks = null;
        bestSum = NONE;
        pick(0, new int[told.bathers.size()], 0, 0);
        return bather == NONE ? bestSum : bestPicks[bather];
    }
    void pick(int b, int[] picks, int taken, int sum) {
        if (b == picks.length) {
            if (sum > bestSum) { bestSum = sum; bestPicks = picks.clone(); }
            return;
        }
        int tide = now.tide();
        picks[b] = NONE;
        pick(b + 1, picks, taken, sum);
        for (int i = 0; i < told.ideas.size(); i++) {
            if ((taken >> i & 1) != 0 || !now.ready(b, i, tide)) continue;
            picks[b] = i;
            pick(b + 1, picks, taken | 1 << i, sum + now.keep(b, i, tide));
        }
        picks[b] = NONE;
    }
    int odds(int b, int i) {
        if (no(b, i) || now.hour >= 999) return NONE;
        int count = 0;
        for (int x = 0; x < 100; x++) {
            for (int y = 0; y < 10; y++) {
                World w = now.copy();
                w.passPlanned(x < told.squall ? y : w.tide());
                if (w.strong[b][i] > 0) count++;
            }
        }
        return count;
    }
    int discover() {
        byte[] t = take();
        List<int[]> rows = new ArrayList<>();
        boolean ok = t.length > 0 && t.length <= 64 && t.length % 4 == 0;
        for (int k = 0; ok && k < t.length; k += 4) {
            int[] r = {t[k] & 255, t[k + 1] & 255, t[k + 2] & 255, t[k + 3] & 255};
            ok = r[0] <= 30 && !no(r[1], r[2]) && r[3] <= 99;
            rows.add(r);
        }
        if (!ok) return refuse(1);
        found = rows;
        return rows.size();
    }
    int wits(int b) {
        if (b < 0 || b >= told.bathers.size()) return NONE;
        int bits = 0;
        for (int w = 0; w < 10; w++) {
            World guess = now.copy();
            guess.wits[b] = w;
            boolean ok = true;
            for (int[] r : found) ok = ok && now.hour + r[0] <= 999 && guess.behind(r[0]).strong[r[1]][r[2]] == r[3];
            if (ok) bits |= 1 << w;
        }
        return bits;
    }
    int tells(int b, int what) {
        int left = wits(b);
        if (left <= 0 || told.ideas.isEmpty() || now.hour >= 999 || what < 0 || what > 2) return NONE;
        int[] best = {0, 0, 99};
        World[] guesses = new World[10];
        for (int w = 0; w < 10; w++) { guesses[w] = now.copy(); guesses[w].wits[b] = w; }
        for (int n = 1; n <= 30 && now.hour + n <= 999; n++) {
            for (World g : guesses) g.passPlanned(g.tide());
            for (int i = 0; i < told.ideas.size(); i++) {
                int[] tally = new int[100];
                for (int w = 0; w < 10; w++) if ((left >> w & 1) != 0) tally[guesses[w].strong[b][i]]++;
                int most = Arrays.stream(tally).max().getAsInt();
                if (most < best[2]) best = new int[] {n, i, most};
            }
        }
        return best[what];
    }
    void act() {
        past.add(now.copy());
        if (past.size() > 20) past.remove(0);
    }
    int duck(int b, int i) {
        if (no(b, i) || !now.ready(b, i, now.tide())) return refuse(2);
        act();
        return now.strong[b][i] = now.keep(b, i, now.tide());
    }
    boolean forget(int b, int i) {
        if (no(b, i) || now.strong[b][i] == 0) { refuse(2); return false; }
        act();
        now.strong[b][i] = 0;
        return true;
    }
    boolean send(int k, int b, int i) {
        if (k < 0 || k >= now.plan.length || no(b, i) || Arrays.equals(now.plan[k], new int[] {b, i})) { refuse(2); return false; }
        act();
        now.plan[k] = new int[] {b, i};
        return true;
    }
    int hours(int n) {
        if (!comes(n, 1, 100)) return refuse(3);
        act();
        int ducked = 0;
        for (int k = 0; k < n; k++) if (now.passPlanned(now.tide())) ducked++;
        return ducked;
    }
    int draw(int m) {
        seed = (1103515245L * seed + 12345L) % 2147483648L;
        return (int) (seed / 64 % m);
    }
    int chance(int n) {
        if (!comes(n, 1, 100)) return refuse(3);
        act();
        int squalls = 0;
        for (int k = 0; k < n; k++) {
            boolean squall = draw(100) < told.squall;
            if (squall) squalls++;
            now.passPlanned(squall ? draw(10) : now.tide());
        }
        return squalls;
    }
    boolean undo() {
        if (past.isEmpty()) { refuse(4); return false; }
        now = past.remove(past.size() - 1);
        return true;
    }
    boolean seed(int s) {
        if (s < 0) { refuse(5); return false; }
        seed = s;
        return true;
    }
    long ask() {
        byte[] text = take();
        fault = 0;
        place = NONE;
        try {
            Parser p = new Parser(text);
            p.question = true;
            Token word = p.see();
            boolean test = Arrays.asList("first", "last", "often").contains(word.text);
            if (!test && !Arrays.asList("total", "most", "least").contains(word.text)) throw new Fault(1, word.at);
            p.k++;
            Form f = test ? p.test(0) : p.sum(0);
            if (p.see().sort != 'e') throw new Fault(1, p.see().at);
            List<Long> values = new ArrayList<>();
            for (int b = 0; b < told.bathers.size(); b++) {
                Map<String, Long> s = new HashMap<>();
                s.put("number", (long) b);
                s.put("lung", (long) told.lung.get(b));
                s.put("wits", (long) told.wits.get(b));
                s.put("known", (long) now.known(b));
                s.put("hour", (long) now.hour);
                s.put("tide", (long) now.tide());
                values.add(f.of(s, now, b));
            }
            switch (word.text) {
                case "first": return values.indexOf(1L);
                case "last": return values.lastIndexOf(1L);
                case "most": return values.stream().mapToLong(v -> v).max().orElse(0);
                case "least": return values.stream().mapToLong(v -> v).min().orElse(0);
                default: return values.stream().mapToLong(v -> v).sum();
            }
        } catch (Fault f) {
            fault = f.what;
            place = f.where;
            return -1000000000000000L;
        }
    }
    static int check(byte[] bytes, int n) {
        int c = 239;
        for (int k = 0; k < n; k++) c = (3 * c + (bytes[k] & 255)) % 251;
        return c;
    }
    int image() {
        java.io.ByteArrayOutputStream out = new java.io.ByteArrayOutputStream();
        out.write(now.hour / 256);
        out.write(now.hour % 256);
        for (int[] r : now.strong) for (int v : r) out.write(v);
        for (int[] r : now.plan) for (int v : r) out.write(v);
        out.write(check(out.toByteArray(), out.size()));
        written = out.toByteArray();
        return written.length;
    }
    int octet(int k) { return k < 0 || k >= written.length ? NONE : written[k] & 255; }
    boolean on() {
        byte[] t = take();
        World w = new World(told);
        int cells = told.bathers.size() * told.ideas.size();
        boolean ok = t.length == 3 + cells + 2 * w.plan.length;
        if (ok) {
            w.hour = (t[0] & 255) * 256 + (t[1] & 255);
            ok = w.hour <= 999;
            for (int k = 0; ok && k < cells; k++) {
                int v = t[2 + k] & 255;
                ok = v <= 99;
                w.strong[k / told.ideas.size()][k % told.ideas.size()] = v;
            }
            for (int k = 0; ok && k < w.plan.length; k++) {
                w.plan[k] = new int[] {t[2 + cells + 2 * k] & 255, t[3 + cells + 2 * k] & 255};
                ok = !no(w.plan[k][0], w.plan[k][1]);
            }
            ok = ok && (t[t.length - 1] & 255) == check(t, t.length - 1);
        }
        if (!ok) { refuse(5); return false; }
        now = w;
        past.clear();
        return true;
    }
    int status(int what) { return what < 0 || what > 5 ? NONE : refused[what]; }
}
