import java.util.Arrays;

/**
 * Promises 1 to 36: of each argument what is below, first, last, beyond; what is refused, which refusal is counted.
 * No object is asked more than the 512 calls for which it is promised anything.
 */
public final class EdgesOfPromisesTest {
    private static final int NONE = DeepBathing.NONE;
    private static final String PLANNED = "idea a depth 0;bather b lung 0 wits 0;plan b in a;";
    private static final int[] FAR = {Integer.MIN_VALUE, Integer.MIN_VALUE + 1, -65536, -257, -256, -2, -1,
        256, 257, 65536, 1 << 30, Integer.MAX_VALUE - 1, Integer.MAX_VALUE};

    interface Call {
        long of(int argument);
    }

    private static void sentence(String words) {
        Asked.sentence(words);
    }

    private static void due(String what, long want, long got) {
        Asked.due(what, want, got);
    }

    private static void due(String what, boolean want, boolean got) {
        Asked.due(what, want, got);
    }

    private static int one(boolean so) {
        return so ? 1 : 0;
    }

    /** As much of all as there can be: 8 IDEAS, 16 NEEDS, 6 BATHERS, 16 rows; all know all by 99, it is HOUR 100. */
    private static DeepBathing full() {
        StringBuilder s = new StringBuilder(Asked.ideas(8, 0) + Asked.bathers(6));
        int needs = 0;
        for (char j = 'b'; j <= 'h'; j++) {
            for (char i = 'a'; i < j && needs < 16; i++, needs++) {
                s.append("need i").append(i).append(" for i").append(j).append(';');
            }
        }
        for (int k = 0; k < 16; k++) {
            s.append("plan b").append((char) ('a' + k % 6)).append(" in i").append((char) ('a' + k % 8)).append(';');
        }
        DeepBathing x = Asked.told(s + "keeps 99;fades strength;");
        int[] ahead = new int[2 + 48 + 32];
        Arrays.fill(ahead, 2, 50, 99);
        for (int k = 0; k < 16; k++) {
            ahead[50 + 2 * k] = k % 6;
            ahead[51 + 2 * k] = k % 8;
        }
        ahead[1] = 60;
        Asked.put(x, Asked.image(ahead));
        due("on", true, x.on());
        x.hours(40);
        return x;
    }

    /** From first to last the call answers; below, beyond and far away it answers NONE. */
    private static void range(String what, int first, int last, Call call) {
        for (int n = first; n <= last; n++) {
            due(what + "(" + n + ") is told", true, call.of(n) != NONE);
        }
        for (int n : FAR) {
            if (n < first || n > last) {
                due(what + "(" + n + ")", NONE, call.of(n));
            }
        }
        due(what + "(" + (first - 1) + ")", NONE, call.of(first - 1));
        due(what + "(" + (last + 1) + ")", NONE, call.of(last + 1));
    }

    /** What there is, in some twenty calls: the last byte of an image stands for all that is ahead of it. */
    private static String state(DeepBathing x) {
        StringBuilder s = new StringBuilder();
        for (int k = 0; k <= 10; k++) {
            s.append(x.has(k)).append(' ');
        }
        for (int what = 0; what < 4; what++) {
            s.append(x.kept(0, what)).append(' ').append(x.kept(x.has(8) - 1, what)).append(' ');
        }
        return s.append(x.octet(x.image() - 1)).toString();
    }

    /** A call is refused: its answer is NONE (or false), it is counted where it ought to be, all else stays. */
    private static void refused(String what, DeepBathing x, int where, Call call) {
        String before = state(x);
        int[] counts = new int[6];
        for (int k = 0; k < 6; k++) {
            counts[k] = x.status(k);
        }
        due(what + " is refused", true, call.of(0) <= 0);
        for (int k = 0; k < 6; k++) {
            due(what + ": status " + k, counts[k] + (k == where ? 1 : 0), x.status(k));
        }
        due(what + ": all stays", true, state(x).equals(before));
    }

    interface CallOn {
        long of(DeepBathing x, int argument);
    }

    /** A new object refuses a call. */
    private static void refused(String what, int where, CallOn call) {
        DeepBathing x = new DeepBathing();
        refused(what, x, where, a -> call.of(x, a));
    }

    private static void newObject() {
        sentence("`DeepBathing()`: No ideas, no bathers.");
        DeepBathing x = new DeepBathing();
        range("has", 0, 10, x::has);
        range("fault", 0, 0, x::fault);
        range("status", 0, 5, x::status);
        range("tide", 0, 60, x::tide);
        for (int k = -1; k <= 1; k++) {
            due("letter", NONE, x.letter(0, k, 0));
            due("letter", NONE, x.letter(1, k, 0));
            due("idea", NONE, x.idea(k, 0));
            due("bather", NONE, x.bather(k, 0));
            due("knows", NONE, x.knows(k, 0));
            due("keeps", NONE, x.keeps(0, k));
            due("plan", NONE, x.plan(k, 0));
            due("kept", NONE, x.kept(k, 0));
            due("later", NONE, x.later(k, 0, 0));
            due("learns", NONE, x.learns(0, k));
            due("lasts", NONE, x.lasts(k, 0));
            due("course", NONE, x.course(0, 0, k));
            due("odds", NONE, x.odds(k, 0));
            due("wits", NONE, x.wits(k));
            due("tells", NONE, x.tells(k, 0));
            due("octet", NONE, x.octet(k));
            int n = k;
            refused("duck", 2, (y, a) -> y.duck(n, 0));
            refused("forget", 2, (y, a) -> one(y.forget(0, n)));
            refused("send", 2, (y, a) -> one(y.send(n, 0, 0)));
        }
        refused("undo", 4, (y, a) -> one(y.undo()));
        refused("beyond the tape", 0, (y, a) -> one(y.end(1)));
        refused("discover", 1, (y, a) -> y.discover());
        refused("on", 5, (y, a) -> one(y.on()));
        due("match", 0, x.match(NONE));
        due("the empty tape is a beach", 0, x.beach());
        due("an hour", 0, x.hours(1));
        due("an act", 1, x.has(10));
        due("ask", DeepBathing.NOTHING, x.ask());
    }

    private static void calls() {
        sentence("An object is used for at most 512 calls after it has been made; what later calls answer is free.");
        DeepBathing x = new DeepBathing();
        for (int k = 1; k <= 511; k++) {
            due("call " + k, k <= 80 ? 20 * k : NONE, x.feed(0, 0, 0, 0, 0));
        }
        due("call 512", 431, x.status(0));
        for (int k = 0; k < 2000; k++) {
            due("later calls answer, whatever it is", true, x.has(k % 12) < 100000 && x.hours(1) <= 1 | x.beach() < 61 | x.undo());
        }
    }

    private static void constants() {
        sentence("`NONE = -1`: There is none; it is refused.");
        due("NONE", -1, DeepBathing.NONE);
        DeepBathing x = new DeepBathing();
        due("there is none", DeepBathing.NONE, x.knows(0, 0));
        due("it is refused", DeepBathing.NONE, x.duck(0, 0));
        sentence("`NOTHING = -1000000000000000L`: Told where a number below 0 may be one.");
        due("NOTHING", -1000000000000000L, DeepBathing.NOTHING);
        x = full();
        due("the least answer of any", -6000000, Asked.ask(x, "total 0-9999*9999"));
        due("-1 is one", -1, Asked.ask(x, "least 0-1"));
        due("and no FAULT", 0, x.fault(0));
        due("a FAULT", DeepBathing.NOTHING, Asked.ask(x, "least -1"));
    }

    private static void tape() {
        sentence("how many there are; NONE, refused (0), if there would be more than 1600.");
        DeepBathing x = new DeepBathing();
        for (int k = 1; k <= 80; k++) {
            due("feed " + k, 20 * k, x.feed(k, 0, 0, 0, 0));
        }
        refused("feed", x, 0, a -> x.feed(0, 0, 0, 0, 0));
        for (int n : new int[] {1599, 1590, 1581}) {
            due("end " + n, true, x.end(n));
            refused("feed at " + n, x, 0, a -> x.feed(0, 0, 0, 0, 0));
        }
        x.end(1580);
        due("feed at 1580", 1600, x.feed(0, 0, 0, 0, 0));
        x.end(1579);
        due("feed at 1579", 1599, x.feed(0, 0, 0, 0, 0));
        refused("feed at 1599", x, 0, a -> x.feed(0, 0, 0, 0, 0));
        sentence("Twenty bytes come behind those on the tape, of each number the highest first");
        x.end(0);
        due("total 1000+200+30+4 ", 20, x.feed(0x746f7461, 0x6c203130, 0x30302b32, 0x30302b33, 0x302b3420));
        due("no bathers", 0, x.ask());
        due("no fault", 0, x.fault(0));
        x.feed(0x746f7461, 0x6c203120, 0x20202020, 0x20202020, 0x20202020);
        x.end(6);
        x.feed(0x31323334, 0x35202020, 0x20202020, 0x20202020, 0x20202020);
        due("behind those: total 12345", DeepBathing.NOTHING, x.ask());
        due("the fifth digit", 10, x.fault(1));
        // HOUR 239 * 3 % 251 = 215, 215 * 3 % 251 = 143: a byte above 127
        x.feed(0x00008fff, -1, -1, -1, -1);
        x.end(3);
        due("bytes above 127", true, x.on());
        sentence("The tape has its first n bytes alone: true; false, refused (0), if it has not so many, or n is below 0.");
        for (int n : FAR) {
            refused("end " + n, 0, (y, a) -> one(y.end(n)));
        }
        DeepBathing z = new DeepBathing();
        due("none of none", true, z.end(0));
        refused("one of none", z, 0, a -> one(z.end(1)));
        z.feed(0, 0, 0, 0, 0);
        refused("one more", z, 0, a -> one(z.end(21)));
        due("all", true, z.end(20));
        due("one less", true, z.end(19));
        refused("what went", z, 0, a -> one(z.end(20)));
        due("all of 19", true, z.end(19));
        due("none", true, z.end(0));
        refused("one", z, 0, a -> one(z.end(1)));
        z.feed(0, 0, 0, 0, 0);
        refused("below", z, 0, a -> one(z.end(-1)));
        due("all are there still", true, z.end(20));
    }

    /** Bytes that end() has cut off are not there, whatever they are. */
    private static void cutOff() {
        sentence("The tape has its first n bytes alone");
        for (char behind : new char[] {'a', 'n', '1', ' ', '\n', ';', '(', '[', '+', 0, 255}) {
            String cut = Asked.times(20, "" + behind);
            askCut("first all", cut, 0, 0);
            askCut("total 12", cut, 12, 0);
            askCut("total hour", cut, 0, 0);
            askCut("total 12 ", cut, 12, 0);
            askCut("total 12+", cut, DeepBathing.NOTHING, 9);
            askCut("total hou", cut, DeepBathing.NOTHING, 6);
            askCut("total 12 \n", cut, 12, 0);
            beachCut("squall 1;", cut, 1, NONE);
            beachCut("squall 1", cut, NONE, 8);
            beachCut("idea a depth 9", cut, NONE, 14);
            beachCut("idea a depth ", cut, NONE, 13);
            beachCut("idea abc", cut, NONE, 8);
            beachCut("idea abcdef", cut, NONE, 11);
            beachCut("idea", cut, NONE, 4);
            beachCut("ide", cut, NONE, 0);
            beachCut("", cut, 0, NONE);
        }
        DeepBathing x = full();
        Asked.put(x, 0, 0, 0, 99, 31, 31, 31, 31);
        x.end(4);
        due("one row", 1, x.discover());
    }

    private static void askCut(String text, String behind, long want, int place) {
        DeepBathing x = Asked.told("bather b lung 0 wits 0;");
        Asked.put(x, text + behind);
        x.end(text.length());
        due(text + "|" + behind, want, x.ask());
        due("place in " + text + "|" + behind, want == DeepBathing.NOTHING ? place : NONE, x.fault(1));
    }

    private static void beachCut(String text, String behind, int want, int place) {
        DeepBathing x = new DeepBathing();
        Asked.put(x, text + behind);
        x.end(text.length());
        due(text + "|" + behind, want, x.beach());
        due("place in " + text + "|" + behind, place, x.fault(1));
    }

    /** Texts as long as the tape. */
    private static void fullTape() {
        sentence("if there would be more than 1600");
        for (int cut = 0; cut <= 1; cut++) {
            int length = 1600 - cut;
            String ones = "total 1" + (cut == 0 ? "2" : "") + Asked.times(796, "+1");
            due("a question of " + length, length, ones.length());
            DeepBathing x = Asked.told("bather b lung 0 wits 0;");
            due("ends in a number", cut == 0 ? 808 : 797, Asked.ask(x, ones));
            x.hours(5);
            due("ends in a word", 800 - cut, Asked.ask(x, "total " + Asked.times(cut, " ") + Asked.times(795 - cut, "1+") + "hour"));
            due("ends in blanks", 7, Asked.ask(x, "total 7" + Asked.times(length - 7, " ")));
            Asked.beach("squall 7;" + Asked.times(length - 9, "\n"), 0, NONE);
            Asked.beach("squall 7" + Asked.times(length - 8, "\n"), 1, length);
            Asked.beach(Asked.times(length - 8, " ") + "squall 7", 1, length);
            Asked.beach(Asked.times(length - 6, " ") + "idea i", 1, length);
            Asked.beach(Asked.times(length - 11, " ") + "idea abcdef", 1, length);
            Asked.beach(Asked.times(length - 4, " ") + "idea", 1, length);
            Asked.beach(Asked.times(length - 6, " ") + "tide 1", 1, length);
            Asked.beach(Asked.times(length - 7, " ") + "tide 1;", 0, NONE);
            Asked.beach(Asked.times(length - 1, " ") + "?", 1, length - 1);
            Asked.question("total ((((((" + Asked.times(length - 12, " "), 1, length);
            Asked.question(Asked.times(length, " "), 1, length);
        }
    }

    /** Of what was told before nothing is left, of what had a FAULT neither. */
    private static void toldAgain() {
        sentence("Without one all is as at first");
        String much = Asked.chain(8) + Asked.bathers(6) + Asked.times(16, "plan ba in ia;") + "tide 3;keeps 3;fades 3;bears 1=2;squall 100;";
        String little = "idea x depth 0;idea y depth 1;bather z lung 0 wits 0;";
        for (int round = 0; round < 2; round++) {
            DeepBathing x = new DeepBathing();
            for (int k = 0; k < 2; k++) {
                Asked.put(x, much + (round == 0 ? "" : "?"));
                due("much", round == 0, x.beach() != NONE);
                due("tide", round == 0 ? 3 : 9, x.has(5));
            }
            for (int k = 0; k < 3; k++) {
                Asked.put(x, little);
                due("little", 3, x.beach());
                int[] has = {2, 0, 1, 0, 0, 9, 0, 0, 0, 0, 0};
                for (int what = 0; what < has.length; what++) {
                    due("has " + what, has[what], x.has(what));
                }
                due("needs", 0, x.idea(1, 1));
                due("roots", 0, x.idea(1, 2));
                due("ready", 3, x.bather(0, 3));
                due("keeps", 19, x.keeps(0, 1));
                due("squalls", 0, x.chance(100));
                x.duck(0, 1);
                due("fades", 18, x.later(0, 1, 1));
            }
        }
        DeepBathing x = new DeepBathing();
        for (int k = 0; k < 5; k++) {
            Asked.put(x, "tide " + (794 + k) + Asked.times(795, "-1") + ";");
            x.beach();
            due("a long one again", k - 1 < 0 ? 0 : k - 1, x.has(5));
        }
        DeepBathing y = Asked.told("bather b lung 0 wits 0;");
        for (int k = 0; k < 5; k++) {
            due("a long question again", k - 1, Asked.ask(y, "total " + (794 + k) + Asked.times(795, "-1")));
        }
    }

    private static void beaches() {
        sentence("The tape (it goes) is THE BEACH: how many STATEMENTS (0 without); NONE, refused (1), with a FAULT (all stays).");
        DeepBathing x = full();
        String[] faults = {"x", "idea a depth 10;", "idea a depth 1;idea a depth 1;", "tide (((((((1", "tide 1;tide 1;", "idea a depth 1"};
        int[] kinds = {1, 2, 3, 4, 5, 1};
        for (int k = 0; k < faults.length; k++) {
            Asked.put(x, faults[k]);
            refused(faults[k], x, 1, a -> x.beach());
            due(faults[k], kinds[k], x.fault(0));
            due("it goes", false, x.end(1));
        }
        due("letters stay", 9, x.letter(0, 7, 0));
        due("keeps stays", 99, x.keeps(0, 0));
        due("ideas stay", 8, x.has(0));
        Asked.put(x, "squall 1;squall 2;");
        due("two", 2, x.beach());
        due("it goes", false, x.end(1));
        due("without", 0, x.beach());
        Asked.put(x, " \n ");
        due("without", 0, x.beach());
        sentence("Without one all is as at first, nothing is KEPT, FOUND or can be undone; the seed stays.");
        DeepBathing y = Asked.told(PLANNED + "squall 100;");
        y.hours(5);
        y.send(0, 0, 0);
        y.chance(1);
        Asked.put(y, 0, 0, 0, 19);
        y.discover();
        Asked.put(y, PLANNED + "squall 81;");
        due("four", 4, y.beach());
        int[] first = {1, 0, 1, 1, 0, 9, 0, 0, 0, 0, 0};
        for (int k = 0; k < first.length; k++) {
            due("has " + k, first[k], y.has(k));
        }
        due("wits are all", 1023, y.wits(0));
        refused("nothing to undo", y, 4, a -> one(y.undo()));
        seedStays();
        sentence("Of the latest beach() or ask(): its FAULT (what 0; 0 without, and ahead of any), its place (1; NONE without). NONE for another what.");
        DeepBathing z = new DeepBathing();
        faultIs(z, 0, NONE);
        Asked.put(z, "tide 1;tide");
        z.beach();
        faultIs(z, 5, 7);
        z.discover();
        z.on();
        z.duck(0, 0);
        faultIs(z, 5, 7);
        Asked.ask(z, "total (((((((");
        faultIs(z, 4, 12);
        Asked.ask(z, "total 1");
        faultIs(z, 0, NONE);
        z.ask();
        faultIs(z, 1, 0);
        z.beach();
        faultIs(z, 0, NONE);
    }

    /** By seed 1 the DRAWS of 100 without a squall are 18, 9 (as it is of ten), 26. */
    private static void seedStays() {
        DeepBathing x = Asked.told("squall 18;");
        due("18 is not below it", 0, x.chance(1));
        x.seed(1);
        Asked.put(x, "squall 19;");
        x.beach();
        due("18 is below it, 9 is its tide", 1, x.chance(1));
        Asked.put(x, "squall 26;");
        x.beach();
        due("26 is not below it, as it goes on", 0, x.chance(1));
    }

    private static void faultIs(DeepBathing x, int fault, int place) {
        due("fault", fault, x.fault(0));
        due("place", place, x.fault(1));
        for (int what : new int[] {-1, 2, Integer.MIN_VALUE, Integer.MAX_VALUE}) {
            due("fault " + what, NONE, x.fault(what));
        }
    }

    private static void told() {
        DeepBathing x = full();
        sentence("How many there are: 0 IDEAS, 1 NEEDS, 2 BATHERS, 3 rows of the PLAN, 4 HOUR, 5 the TIDE now, 6 how many IDEAS are known (by each BATHER, together), 7 all strengths together, 8 what is told as KEPT, 9 rows FOUND, 10 ACTS that can be undone. NONE for others.");
        range("has", 0, 10, x::has);
        for (int k = 0; k < 25; k++) {
            x.hours(1);
        }
        int[] all = {8, 16, 6, 16, 125, 9, 48, 48 * 99, 40, 16, 20};
        Asked.put(x, new int[64]);
        x.discover();
        for (int k = 0; k < all.length; k++) {
            due("has " + k, all[k], x.has(k));
        }
        letters();
        ofIdeasAndBathers();
        sentence("Of what is told as KEPT, the k-th from the oldest on: 0 HOUR, 1 BATHER, 2 IDEA, 3 strength. NONE when there is none such, or for others.");
        range("kept", 0, 39, k -> x.kept(k, 0));
        range("kept, what", 0, 3, what -> x.kept(39, what));
        due("oldest", 85, x.kept(0, 0));
        due("latest", 124, x.kept(39, 0));
    }

    private static void letters() {
        DeepBathing x = full();
        sentence("Letter k (0 .. 5) of the NAME of an IDEA (kind 0), a BATHER (1): 1 .. 26; 0 behind it; NONE when there is none such.");
        range("letter of idea 7", 0, 5, k -> x.letter(0, 7, k));
        range("letter of bather 5", 0, 5, k -> x.letter(1, 5, k));
        range("letter 5 of an idea", 0, 7, i -> x.letter(0, i, 5));
        range("letter 0 of a bather", 0, 5, b -> x.letter(1, b, 0));
        range("letter of a kind", 0, 1, kind -> x.letter(kind, 0, 0));
        DeepBathing y = Asked.told("idea azazaz depth 0;bather z lung 0 wits 0;");
        for (int k = 0; k < 6; k++) {
            due("azazaz " + k, k % 2 == 0 ? 1 : 26, y.letter(0, 0, k));
            due("z " + k, k == 0 ? 26 : 0, y.letter(1, 0, k));
        }
    }

    private static void ofIdeasAndBathers() {
        DeepBathing x = full();
        sentence("Of an IDEA: 0 depth, 1 what it NEEDS, 2 its ROOTS (both as bits), 3 how many know it. NONE when there is none such, or for others.");
        range("idea", 0, 7, i -> x.idea(i, 0));
        range("idea, what", 0, 3, what -> x.idea(7, what));
        due("all know it", 6, x.idea(7, 3));
        sentence("Of a BATHER: 0 lung, 1 wits, 2 IDEAS that he knows, 3 for which he is READY (both as bits), 4 all his strengths together. NONE when there is none such, or for others.");
        range("bather", 0, 5, b -> x.bather(b, 0));
        range("bather, what", 0, 4, what -> x.bather(5, what));
        due("all are known", 255, x.bather(5, 2));
        due("all are ready for", 255, x.bather(5, 3));
        due("all together", 8 * 99, x.bather(5, 4));
        sentence("How strongly a BATHER knows an IDEA; NONE when there are none such.");
        both("knows", x::knows);
        sentence("By which strength a BATHER would know an IDEA, DUCKED in it now, READY or not; NONE when there are none such.");
        both("keeps", x::keeps);
        due("ready or not", 15, Asked.told("idea a depth 5;bather b lung 0 wits 0;tide 4;bears 1=2;").keeps(0, 0));
        sentence("Of a row of the PLAN: 0 BATHER, 1 IDEA. NONE when there is none such, or for others.");
        range("plan", 0, 15, k -> x.plan(k, 0));
        range("plan", 0, 15, k -> x.plan(k, 1));
        range("plan, what", 0, 1, what -> x.plan(15, what));
    }

    interface OfBoth {
        long of(int bather, int idea);
    }

    /** The call answers for 6 BATHERS and 8 IDEAS, and NONE beside them. */
    private static void both(String what, OfBoth call) {
        range(what + " of a bather", 0, 5, b -> call.of(b, 7));
        range(what + " of an idea", 0, 7, i -> call.of(5, i));
        for (int n : FAR) {
            due(what + " of none", NONE, call.of(n, n));
        }
        due(what + " of none", NONE, call.of(6, 8));
        due(what + " of none", NONE, call.of(7, 6));
    }

    private static void ahead() {
        DeepBathing x = full();
        sentence("The TIDE n HOURS from now on (0 .. 60); NONE when n can't be.");
        range("tide", 0, 60, x::tide);
        sentence("How strongly a BATHER knows an IDEA behind n HOURS AHEAD (0 .. 60); NONE when there are none such, or n can't be.");
        range("later", 0, 60, n -> x.later(5, 7, n));
        both("later", (b, i) -> x.later(b, i, 60));
        sentence("Behind how many HOURS AHEAD (0: now; 60 at most) a BATHER knows an IDEA first; NONE when he does not, or there are none such.");
        both("learns", x::learns);
        due("now", 0, x.learns(5, 7));
        due("he does not", NONE, Asked.told("idea a depth 0;bather b lung 0 wits 0;").learns(0, 0));
        sentence("To LAST: how many HOURS (0 .. 60); NONE when he does not know it, or there are none such.");
        both("lasts", x::lasts);
        due("at most", 60, x.lasts(5, 7));
        x.forget(5, 7);
        due("he does not know it", NONE, x.lasts(5, 7));
        x.undo();
        foreseen();
    }

    private static void foreseen() {
        DeepBathing x = full();
        sentence("A COURSE of a BATHER for an IDEA: how many HOURS (k NONE), the IDEA of the k-th (NONE nobody). NONE without one, or when there are none such.");
        both("course", (b, i) -> x.course(b, i, NONE));
        due("none is asked", 0, x.course(5, 7, NONE));
        range("course", 0, 3, courseOfFour());
        sentence("A CHANGE for n HOURS (1 .. 30): the row of the less number (what 0; NONE for none), the other one (1), all strengths then (2). NONE when n can't be, or for others.");
        range("change", 1, 30, n -> x.change(n, 2));
        DeepBathing y = Asked.told("idea a depth 0;idea c depth 9;bather b lung 0 wits 0;tide 8;plan b in c;plan b in a;");
        range("change, what", 0, 2, what -> y.change(1, what));
        sentence("A MATCH: the sum (bather NONE), the IDEA of a BATHER (NONE). NONE when there is none such.");
        range("match", -1, 5, x::match);
        due("sum", 6 * 99, x.match(NONE));
        sentence("ODDS of a BATHER, an IDEA (1000 rows); NONE when there are none such, or at HOUR 999.");
        both("odds", x::odds);
        due("all rows", 1000, x.odds(5, 7));
        Asked.at(x, 998);
        due("at 998", 1000, x.odds(5, 7));
        Asked.at(x, 999);
        due("at 999", NONE, x.odds(5, 7));
    }

    private static Call courseOfFour() {
        DeepBathing x = Asked.told(Asked.chain(4) + "bather b lung 0 wits 0;");
        due("course", 4, x.course(0, 3, NONE));
        return k -> k == NONE ? NONE : x.course(0, 3, k);
    }

    private static void howQuick() {
        sentence("The tape (it goes) tells what is FOUND, 1 to 16 rows of four bytes: how many rows; NONE, refused (1), all staying, when it is none such.");
        for (int bytes = 0; bytes <= 84; bytes++) {
            DeepBathing y = full();
            Asked.put(y, new int[bytes]);
            if (bytes % 4 == 0 && bytes >= 4 && bytes <= 64) {
                due(bytes + " bytes", bytes / 4, y.discover());
                due("found", bytes / 4, y.has(9));
            } else {
                refused(bytes + " bytes", y, 1, a -> y.discover());
            }
            due("it goes", false, y.end(1));
        }
        DeepBathing x = full();
        Asked.put(x, 30, 5, 7, 99);
        due("the last ones", 1, x.discover());
        int[][] bad = {{31, 5, 7, 99}, {30, 6, 7, 99}, {30, 5, 8, 99}, {30, 5, 7, 100}};
        for (int[] row : bad) {
            DeepBathing y = full();
            Asked.put(y, row);
            refused("beyond", y, 1, a -> y.discover());
        }
        Asked.put(x, new int[1600]);
        refused("1600 bytes", x, 1, a -> x.discover());
        sentence("WITS of a BATHER by what is FOUND (all, if nothing is; HOURS beyond 999 are by none), as bits. NONE when there is none such.");
        range("wits", 0, 5, x::wits);
        sentence("TELLING for a BATHER: the number of HOURS AHEAD (what 0), the IDEA (1), how many WITS are left at the most (2). NONE without any, without IDEAS, when no HOUR comes, there is none such, or for others.");
        range("tells", 0, 5, b -> x.tells(b, 0));
        range("tells, what", 0, 2, what -> x.tells(5, what));
        DeepBathing y = full();
        Asked.put(y, 0, 0, 0, 98);
        y.discover();
        for (int what = -1; what <= 3; what++) {
            due("without any", NONE, y.tells(5, what));
            due("without ideas", NONE, Asked.told(Asked.bathers(6)).tells(5, what));
            due("without bathers", NONE, Asked.told(Asked.ideas(8, 0)).tells(0, what));
        }
        DeepBathing z = Asked.at(full(), 998);
        due("an hour comes", 1, z.tells(5, 0));
        Asked.at(z, 999);
        for (int what = 0; what <= 2; what++) {
            due("no hour comes", NONE, z.tells(5, what));
        }
    }

    private static void ducks() {
        sentence("A BATHER is DUCKED in an IDEA: by which strength he knows it; NONE, refused (2), when he is not READY, or there are none such.");
        DeepBathing x = full();
        due("the last ones", 99, x.duck(5, 7));
        for (int n : FAR) {
            DeepBathing w = full();
            refused("duck", w, 2, a -> w.duck(n, 7));
            refused("duck", w, 2, a -> w.duck(5, n));
        }
        refused("duck beyond", x, 2, a -> x.duck(6, 7));
        refused("duck beyond", x, 2, a -> x.duck(5, 8));
        DeepBathing y = Asked.told("idea a depth 5;idea c depth 0;need a for c;bather b lung 0 wits 0;tide 4+hour;");
        refused("too deep", y, 2, a -> y.duck(0, 0));
        refused("it needs another", y, 2, a -> y.duck(0, 1));
        y.hours(1);
        due("no deeper", 15, y.duck(0, 0));
        due("it has it", 20, y.duck(0, 1));
        DeepBathing z = Asked.told("idea a depth 5;bather b lung 0 wits 0;bears hour>0;");
        refused("bears", z, 2, a -> z.duck(0, 0));
        z.hours(1);
        due("bears", 15, z.duck(0, 0));
        due("at hour 999", 15, Asked.at(z, 999).duck(0, 0));
    }

    private static void forgets() {
        sentence("A BATHER forgets an IDEA: true; false, refused (2), when he does not know it, or there are none such.");
        DeepBathing x = full();
        due("the last ones", true, x.forget(5, 7));
        refused("not known", x, 2, a -> one(x.forget(5, 7)));
        refused("beyond", x, 2, a -> one(x.forget(6, 7)));
        refused("beyond", x, 2, a -> one(x.forget(5, 8)));
        refused("below", x, 2, a -> one(x.forget(-1, 7)));
        refused("below", x, 2, a -> one(x.forget(5, -1)));
        DeepBathing y = Asked.told(PLANNED + "keeps 1;fades strength;");
        refused("not known", y, 2, a -> one(y.forget(0, 0)));
        y.duck(0, 0);
        due("known by 1", true, y.forget(0, 0));
        due("strength 0", 0, y.knows(0, 0));
        due("at hour 999", true, forgetsAt999());
    }

    private static boolean forgetsAt999() {
        DeepBathing x = Asked.at(Asked.told(PLANNED), 999);
        x.duck(0, 0);
        return x.forget(0, 0);
    }

    private static void sends() {
        sentence("A row of the PLAN is told anew: true; false, refused (2), when it is that, or there are none such.");
        DeepBathing x = full();
        refused("it is that", x, 2, a -> one(x.send(15, 3, 7)));
        due("another bather", true, x.send(15, 5, 7));
        due("another idea", true, x.send(15, 5, 6));
        due("both", true, x.send(15, 0, 0));
        due("told", 0, x.plan(15, 0));
        due("told", 0, x.plan(15, 1));
        refused("it is that", x, 2, a -> one(x.send(15, 0, 0)));
        DeepBathing z = full();
        refused("beyond", z, 2, a -> one(z.send(16, 0, 0)));
        refused("below", z, 2, a -> one(z.send(-1, 0, 0)));
        refused("beyond", z, 2, a -> one(z.send(0, 6, 0)));
        refused("below", z, 2, a -> one(z.send(0, -1, 0)));
        refused("beyond", z, 2, a -> one(z.send(0, 0, 8)));
        refused("below", z, 2, a -> one(z.send(0, 0, -1)));
        DeepBathing y = Asked.told("idea a depth 0;bather b lung 0 wits 0;");
        refused("without a plan", y, 2, a -> one(y.send(0, 0, 0)));
    }

    private static void passes() {
        sentence("n HOURS (1 .. 100): how many were DUCKED; NONE, refused (3), when it can't be (beyond HOUR 999).");
        for (int n : new int[] {1, 2, 99, 100}) {
            DeepBathing x = Asked.told(PLANNED);
            due("hours " + n, n, x.hours(n));
            due("hour", n, x.has(4));
            due("one act", 1, x.has(10));
            DeepBathing y = Asked.told(PLANNED + "squall 100;");
            due("chance " + n, n, y.chance(n));
            due("hour", n, y.has(4));
            due("one act", 1, y.has(10));
        }
        DeepBathing x = Asked.told(PLANNED);
        for (int n : new int[] {0, 101}) {
            refused("hours " + n, x, 3, a -> x.hours(n));
            refused("chance " + n, x, 3, a -> x.chance(n));
        }
        for (int n : FAR) {
            due("hours " + n, NONE, x.hours(n));
            due("chance " + n, NONE, x.chance(n));
        }
        DeepBathing y = Asked.at(Asked.told(PLANNED), 900);
        refused("hours 100 at 900", y, 3, a -> y.hours(100));
        refused("chance 100 at 900", y, 3, a -> y.chance(100));
        due("hours 99 at 900", 99, y.hours(99));
        refused("hours 1 at 999", y, 3, a -> y.hours(1));
        refused("chance 1 at 999", y, 3, a -> y.chance(1));
        sentence("n HOURS by the seed (1 .. 100), one ACT: how many squalls; NONE, refused (3), when it can't be.");
        DeepBathing z = Asked.at(Asked.told(PLANNED + "squall 100;"), 899);
        due("chance 100 at 899", 100, z.chance(100));
        due("one act", 1, z.has(10));
        z.undo();
        due("undone", 899, z.has(4));
        // a refused one draws nothing: the first DRAW of seed 1 is 18
        DeepBathing w = Asked.told("squall 19;");
        w.chance(0);
        w.chance(101);
        due("not drawn", 1, w.chance(1));
    }

    private static void undoes() {
        sentence("The latest ACT is undone (the seed stays): true; false, refused (4), when none can be.");
        DeepBathing x = Asked.told(PLANNED + "idea c depth 0;squall 19;");
        refused("none", x, 4, a -> one(x.undo()));
        String[] states = new String[6];
        for (int k = 0; k < 6; k++) {
            states[k] = state(x);
            due("act " + k, true, act(x, k));
        }
        for (int k = 5; k >= 0; k--) {
            due("undone", true, x.undo());
            due("as it was ahead of act " + k, true, state(x).equals(states[k]));
        }
        refused("none any more", x, 4, a -> one(x.undo()));
        // the chance of three HOURS drew 18 and 9, 26, 80: 16 is next, 18 again by seed 1
        due("the seed stays", 1, x.chance(1));
        x.seed(1);
        due("the seed is told", 1, x.chance(1));
        x.undo();
        x.undo();
        due("the seed stays: 26", 0, x.chance(1));
    }

    private static boolean act(DeepBathing x, int k) {
        switch (k) {
            case 0: return x.hours(50) == 50;
            case 1: return x.duck(0, 1) != NONE;
            case 2: return x.forget(0, 0);
            case 3: return x.send(0, 0, 1);
            case 4: return x.chance(3) == 1;
            default: return x.hours(1) == 1;
        }
    }

    private static void seeds() {
        sentence("The seed: true; false, refused (5), when it is below 0. (It is 1 at first.)");
        DeepBathing x = Asked.told("squall 19;");
        refused("below", x, 5, a -> one(x.seed(-1)));
        refused("far below", x, 5, a -> one(x.seed(Integer.MIN_VALUE)));
        due("1 at first: 18", 1, x.chance(1));
        due("0", true, x.seed(0));
        due("1", true, x.seed(1));
        due("18 again", 1, x.chance(1));
        due("the most", true, x.seed(Integer.MAX_VALUE));
        due("99", 0, x.chance(1));
        x.seed(1);
        refused("below", x, 5, a -> one(x.seed(-2)));
        due("a refused one is none", 1, x.chance(1));
    }

    private static void asks() {
        sentence("The tape (it goes) is a QUESTION: its answer; NONE of first, last, when its TEST holds for none; NOTHING with a FAULT.");
        DeepBathing x = full();
        due("first", 0, Asked.ask(x, "first all"));
        due("last", 5, Asked.ask(x, "last all"));
        due("none", NONE, Asked.ask(x, "first not all"));
        due("none", NONE, Asked.ask(x, "last not all"));
        due("a sum can be that", -1, Asked.ask(x, "most 0-1"));
        due("it goes", false, x.end(1));
        for (String bad : new String[] {"", "first", "total (((((((1", "total 1;", "total 12345"}) {
            String before = state(x);
            due(bad, DeepBathing.NOTHING, Asked.ask(x, bad));
            due("it goes", false, x.end(1));
            due("all stays", true, state(x).equals(before));
            due("not counted", 0, x.status(1));
        }
    }

    private static void octets() {
        sentence("AN IMAGE is written: how many bytes.");
        DeepBathing x = full();
        due("octet ahead of any", NONE, new DeepBathing().octet(0));
        due("the most", 83, x.image());
        sentence("Byte k of the latest image(); NONE when there is none such.");
        range("octet", 0, 82, x::octet);
        int hour = x.octet(1);
        x.hours(1);
        due("of the latest one", hour, x.octet(1));
        x.image();
        due("of the latest one", hour + 1, x.octet(1));
        Asked.put(x, PLANNED);
        x.beach();
        due("of a less one", 6, x.image());
        range("octet", 0, 5, x::octet);
        x.beach();
        due("of the least", 3, x.image());
        range("octet", 0, 2, x::octet);
    }

    private static void ons() {
        sentence("The tape (it goes) is AN IMAGE of this BEACH: true, all is as it tells, nothing is KEPT or can be undone; false, refused (5), when it is none (HOUR 999, strengths 99 at most; BATHERS, IDEAS that there are), all staying.");
        DeepBathing x = full();
        int[] ahead = new int[82];
        Arrays.fill(ahead, 2, 50, 99);
        for (int k = 0; k < 16; k++) {
            ahead[50 + 2 * k] = 5;
            ahead[51 + 2 * k] = 7;
        }
        ahead[0] = 3;
        ahead[1] = 231;
        int[] good = Asked.image(ahead);
        spoilt(ahead, 1, 232);
        spoilt(ahead, 0, 4);
        spoilt(ahead, 0, 255);
        for (int k : new int[] {2, 9, 10, 48, 49}) {
            spoilt(ahead, k, 100);
            spoilt(ahead, k, 255);
        }
        for (int k : new int[] {50, 64, 80}) {
            spoilt(ahead, k, 6);
            spoilt(ahead, k, 255);
            spoilt(ahead, k + 1, 8);
            spoilt(ahead, k + 1, 255);
        }
        for (int length : new int[] {0, 1, 2, 3, 81, 82, 84, 85, 1600}) {
            none(length <= 82 ? Asked.image(Arrays.copyOf(ahead, Math.max(0, length - 1))) : Arrays.copyOf(good, length), length);
        }
        for (int check : new int[] {good[82] ^ 1, (good[82] + 1) % 251, 251, 255}) {
            int[] bad = good.clone();
            bad[82] = check;
            none(bad, 83);
        }
        Asked.put(x, good);
        due("on", true, x.on());
        due("hour", 999, x.has(4));
        due("all together", 48 * 99, x.has(7));
        due("nothing is kept", 0, x.has(8));
        due("nothing can be undone", 0, x.has(10));
        due("the plan", 5, x.plan(15, 0));
        due("the plan", 7, x.plan(0, 1));
        due("it goes", false, x.end(1));
        Arrays.fill(ahead, 0);
        Asked.put(x, Asked.image(ahead));
        due("all 0", true, x.on());
        due("hour", 0, x.has(4));
        due("none is known", 0, x.has(6));
    }

    private static void spoilt(int[] ahead, int at, int octet) {
        int[] bad = ahead.clone();
        bad[at] = octet;
        none(Asked.image(bad), bad.length + 1);
    }

    /** So many of these bytes are no image. */
    private static void none(int[] bytes, int length) {
        DeepBathing x = full();
        Asked.put(x, bytes);
        x.end(length);
        refused(length + " bytes", x, 5, a -> one(x.on()));
        due("it goes", false, x.end(1));
    }

    private static void counted() {
        sentence("How many were refused: 0 feed(), end(); 1 beach(), discover(); 2 duck(), forget(), send(); 3 hours(), chance(); 4 undo(); 5 seed(), on(). NONE for others.");
        DeepBathing x = new DeepBathing();
        range("status", 0, 5, x::status);
        for (int k = 0; k < 6; k++) {
            due("none yet " + k, 0, x.status(k));
        }
        for (int k = 0; k < 80; k++) {
            x.feed(0, 0, 0, 0, 0);
        }
        refused("feed", x, 0, a -> x.feed(0, 0, 0, 0, 0));
        refused("beach", x, 1, a -> x.beach());
        refused("end", 0, (y, a) -> one(y.end(-1)));
        refused("discover", 1, (y, a) -> y.discover());
        refused("duck", 2, (y, a) -> y.duck(0, 0));
        refused("forget", 2, (y, a) -> one(y.forget(0, 0)));
        refused("send", 2, (y, a) -> one(y.send(0, 0, 0)));
        refused("hours", 3, (y, a) -> y.hours(0));
        refused("chance", 3, (y, a) -> y.chance(0));
        refused("undo", 4, (y, a) -> one(y.undo()));
        refused("seed", 5, (y, a) -> one(y.seed(-1)));
        refused("on", 5, (y, a) -> one(y.on()));
        int[] counts = {2, 3, 4, 5, 6, 7};
        DeepBathing z = new DeepBathing();
        z.end(-1);
        z.end(1);
        for (int k = 0; k < 3; k++) {
            z.discover();
        }
        for (int k = 0; k < 4; k++) {
            z.duck(k, k);
        }
        for (int k = 0; k < 5; k++) {
            z.chance(0);
        }
        for (int k = 0; k < 6; k++) {
            z.undo();
        }
        for (int k = 0; k < 7; k++) {
            z.seed(-1);
        }
        z.ask();
        z.later(0, 0, 0);
        z.change(0, 0);
        z.tells(0, 0);
        z.octet(0);
        z.odds(0, 0);
        z.wits(0);
        z.course(0, 0, 0);
        z.tide(-1);
        z.beach();
        for (int k = 0; k < 6; k++) {
            due("nothing else is counted, a beach lets it stay " + k, counts[k], z.status(k));
        }
    }

    /** Whatever is asked, in whatever state, is answered. */
    private static void anyArguments() {
        sentence("Nothing is promised beyond the answers and state changes described above, and nothing about an object after its 512th call.");
        int[] any = {Integer.MIN_VALUE, -2, -1, 0, 1, 5, 6, 7, 8, 15, 16, 31, 60, 61, 100, 999, 1000, Integer.MAX_VALUE};
        for (int a : any) {
            for (int b : any) {
                DeepBathing x = a % 2 == 0 ? full() : new DeepBathing();
                int none = x.idea(a, b) + x.bather(a, b) + x.knows(a, b) + x.keeps(a, b) + x.plan(a, b) + x.kept(a, b) + x.learns(a, b)
                        + x.lasts(a, b) + x.change(a, b) + x.odds(a, b) + x.tells(a, b) + x.duck(a, b) + x.has(a) + x.fault(b)
                        + x.tide(a) + x.match(b) + x.wits(a) + x.octet(b) + x.status(a) + x.hours(a) + x.chance(b);
                due("forgets", true, x.forget(a, b) || none <= Integer.MAX_VALUE);
                for (int c : any) {
                    due("letter", true, x.letter(a, b, c) >= NONE);
                    due("later", true, x.later(a, b, c) >= NONE);
                    due("course", true, x.course(a, b, c) >= NONE);
                    due("send", true, x.send(a, b, c) || x.status(2) > 0);
                }
                due("feed, end, seed, undo", true, x.feed(a, b, a, b, a) == 20 && x.end(a) | x.seed(b) | x.undo() | true);
            }
        }
    }

    public static void main(String[] args) {
        newObject();
        calls();
        constants();
        tape();
        cutOff();
        fullTape();
        beaches();
        toldAgain();
        told();
        ahead();
        howQuick();
        ducks();
        forgets();
        sends();
        passes();
        undoes();
        seeds();
        asks();
        octets();
        ons();
        counted();
        anyArguments();
        Asked.end();
    }
}
