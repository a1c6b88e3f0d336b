import java.util.Arrays;
import java.util.List;

/** Terms I: each sentence that names a boundary of the text of a BEACH, inside of it, at it, beyond it. */
public final class EdgesOfTextTest {
    private static final int NONE = DeepBathing.NONE;
    private static final String IB = "idea i depth 1;bather b lung 1 wits 1;";
    private static final List<String> OWN_WORDS = Arrays.asList("idea", "depth", "need", "for", "bather", "lung", "wits",
            "plan", "in", "tide", "keeps", "fades", "bears", "squall", "hour", "known", "strength", "rooted", "number",
            "knows", "ready", "or", "and", "not", "all", "min", "max");

    private static void sentence(String words) {
        Asked.sentence(words);
    }

    private static void beach(String text, int fault, int place) {
        Asked.beach(text, fault, place);
    }

    private static void good(String text) {
        Asked.beach(text, 0, NONE);
    }

    private static void behind(String good, String bad, int fault, int on) {
        Asked.behind(good, bad, fault, on);
    }

    private static String times(int n, String text) {
        return Asked.times(n, text);
    }

    private static void due(String what, long want, long got) {
        Asked.due(what, want, got);
    }

    /** What a SUM gives, asked of one BATHER. */
    private static void sum(String sum, long want) {
        DeepBathing x = Asked.told("bather b lung 0 wits 0;");
        due(sum, want, Asked.ask(x, "total " + sum));
        due("fault of " + sum, 0, x.fault(0));
    }

    /** Whether a TEST holds, asked of one BATHER. */
    private static void test(String test, boolean want) {
        DeepBathing x = Asked.told("bather b lung 0 wits 0;");
        due(test, want ? 1 : 0, Asked.ask(x, "often " + test));
        due("fault of " + test, 0, x.fault(0));
    }

    // ---- how many there can be

    private static void statements() {
        sentence("A BEACH is a text: { STATEMENT ; } (60 at most)");
        for (int n : new int[] {0, 1, 59, 60}) {
            DeepBathing x = new DeepBathing();
            Asked.put(x, times(n, "squall 1;") + "\n ");
            due(n + " statements", n, x.beach());
        }
        behind(times(59, "squall 1;"), "squall 1", 1, 8);
        behind(times(60, "squall 1;"), "squall 1;", 5, 0);
        behind(times(60, "squall 1;"), "squall 1;squall 1;", 5, 0);
        sentence("a 61st STATEMENT (whatever stands there), at its first byte");
        for (String any : new String[] {"s", ";", "?", "7", "12345", "squall1", "squall 101;", "idea", "abcdefghij", "\u00ff", "\t"}) {
            behind(times(60, "squall 1;"), any, 5, 0);
            behind(times(60, "squall 1;"), " \n" + any, 5, 2);
        }
        good(times(60, "squall 1;") + " \n \n");
    }

    private static void ideas() {
        sentence("idea NAME depth N (0 .. 9; 8 IDEAS)");
        for (int depth = 0; depth <= 9; depth++) {
            due("depth " + depth, depth, Asked.told("idea a depth " + depth + ";").idea(0, 0));
        }
        due("depth 0009", 9, Asked.told("idea a depth 0009;").idea(0, 0));
        beach("idea a depth 10;", 2, 13);
        beach("idea a depth 9999;", 2, 13);
        beach("idea a depth 0010;", 2, 13);
        beach("idea a depth -1;", 1, 13);
        for (int n = 0; n <= 8; n++) {
            due(n + " ideas", n, Asked.told(Asked.ideas(n, 0)).has(0));
        }
        beach(Asked.ideas(9, 0), 5, Asked.ideas(8, 0).length());
        behind(Asked.ideas(8, 0), "idea", 5, 0);
        behind(Asked.ideas(8, 0), "  idea 1", 5, 2);
        behind(Asked.ideas(8, 0), "idea ia depth 99;", 5, 0);
        behind(Asked.ideas(8, 0), "ideal", 1, 0);
        behind(Asked.ideas(7, 0), "idea ia", 3, 5);
    }

    private static void needs() {
        sentence("need NAME for NAME (two IDEAS, the second one told behind the first; not told already; 16 NEEDS)");
        String three = Asked.ideas(3, 0);
        good(three + "need ia for ib;");
        good(three + "need ia for ic;");
        behind(three, "need ib for ib;", 3, 12);
        behind(three, "need ib for ia;", 3, 12);
        behind(three, "need ic for ia;", 3, 12);
        good(three + "need ia for ib;need ia for ic;need ib for ic;");
        behind(three + "need ia for ib;need ia for ic;", "need ia for ib;", 3, 12);
        behind(three + "need ia for ib;need ia for ic;", "need ia for ic", 3, 12);
        for (int n = 0; n <= 16; n++) {
            due(n + " needs", n, Asked.told(Asked.ideas(8, 0) + needs(n)).has(1));
        }
        behind(Asked.ideas(8, 0) + needs(15), "need", 1, 4);
        behind(Asked.ideas(8, 0) + needs(16), "need", 5, 0);
        behind(Asked.ideas(8, 0) + needs(16), "need ia for ib;", 5, 0);
        beach(Asked.ideas(8, 0) + needs(17), 5, (Asked.ideas(8, 0) + needs(16)).length());
    }

    private static String needs(int n) {
        StringBuilder s = new StringBuilder();
        int told = 0;
        for (char j = 'b'; j <= 'h'; j++) {
            for (char i = 'a'; i < j && told < n; i++, told++) {
                s.append("need i").append(i).append(" for i").append(j).append(';');
            }
        }
        return s.toString();
    }

    private static void bathers() {
        sentence("bather NAME lung N wits N (0 .. 9 each; 6 BATHERS)");
        for (int n = 0; n <= 9; n++) {
            DeepBathing x = Asked.told("bather b lung " + n + " wits " + (9 - n) + ";");
            due("lung " + n, n, x.bather(0, 0));
            due("wits " + (9 - n), 9 - n, x.bather(0, 1));
        }
        beach("bather b lung 10 wits 0;", 2, 14);
        beach("bather b lung 0 wits 10;", 2, 21);
        beach("bather b lung 10 wits 10;", 2, 14);
        beach("bather b lung -1 wits 0;", 1, 14);
        for (int n = 0; n <= 6; n++) {
            due(n + " bathers", n, Asked.told(Asked.bathers(n)).has(2));
        }
        beach(Asked.bathers(7), 5, Asked.bathers(6).length());
        behind(Asked.bathers(6), "bather", 5, 0);
        behind(Asked.bathers(6), "bather ba lung 10", 5, 0);
        behind(Asked.bathers(5), "bather ba", 3, 7);
    }

    private static void rows() {
        sentence("plan NAME in NAME (a BATHER, an IDEA; the next row of the PLAN; 16 rows)");
        String two = IB + "idea j depth 1;bather c lung 1 wits 1;";
        for (int n = 0; n <= 16; n++) {
            due(n + " rows", n, Asked.told(two + times(n, "plan b in i;")).has(3));
        }
        DeepBathing x = Asked.told(two + times(14, "plan b in i;") + "plan c in i;plan b in j;");
        due("row 14", 1, x.plan(14, 0));
        due("row 15", 1, x.plan(15, 1));
        behind(two + times(15, "plan b in i;"), "plan", 1, 4);
        behind(two + times(16, "plan b in i;"), "plan", 5, 0);
        behind(two + times(16, "plan b in i;"), "plan b in i;", 5, 0);
        behind(two, "plan i in i;", 3, 5);
        behind(two, "plan b in b;", 3, 10);
    }

    private static void oneEach() {
        sentence("tide SUM, keeps SUM, fades SUM, bears TEST (one each)");
        String[] told = {"tide 1;", "keeps 1;", "fades 1;", "bears all;"};
        good(String.join("", told));
        for (String one : told) {
            good(one);
            String word = one.substring(0, one.indexOf(' '));
            behind(one, word, 5, 0);
            behind(one, "\n" + word + " ?", 5, 1);
            behind(String.join("", told), one, 5, 0);
        }
        sentence("squall N (0 .. 100; the last one counts, 0 without)");
        due("without", 0, squalls(""));
        due("0", 0, squalls("squall 0;"));
        due("100", 100, squalls("squall 100;"));
        due("the last one", 100, squalls("squall 0;squall 5;squall 100;"));
        due("the last one", 0, squalls("squall 100;squall 0;"));
        beach("squall 99;", 0, NONE);
        beach("squall 101;", 2, 7);
        beach("squall 9999;", 2, 7);
        beach("squall 100;squall 101;", 2, 18);
    }

    private static int squalls(String text) {
        return Asked.told(text).chance(100);
    }

    // ---- TEST and SUM

    private static void numbers() {
        sentence("N (1 to 4 digits)");
        sum("0", 0);
        sum("7", 7);
        sum("9999", 9999);
        sum("0000", 0);
        sum("0001", 1);
        beach("tide 9999;", 0, NONE);
        beach("tide 10000;", 1, 9);
        beach("tide 00000;", 1, 9);
        beach("tide 1+99999;", 1, 11);
        beach("tide ;", 1, 5);
        beach("tide +;", 1, 5);
    }

    private static void fromTheLeft() {
        sentence("All from the left on");
        sum("9-5-3", 1);
        sum("9-5+3", 7);
        sum("64/8/4", 2);
        sum("64/8*4", 32);
        sum("7*3/2", 10);
        sum("2+3*4", 14);
        sum("2*3+4", 10);
        test("all or all and 1=2", true);
        test("[all or all] and 1=2", false);
        test("1=2 and all or all", true);
        test("not all or all", true);
        test("not [all or all]", false);
        test("not not all", true);
    }

    private static void signs() {
        sentence("FACT: not FACT; [ TEST ] ; all; SUM SIGN SUM, SIGN < or > or =");
        String[] values = {"(0-1000*1000)", "(0-1)", "0", "1", "9999", "1000*1000"};
        for (int a = 0; a < values.length; a++) {
            for (int b = 0; b < values.length; b++) {
                test(values[a] + "<" + values[b], a < b);
                test(values[a] + ">" + values[b], a > b);
                test(values[a] + "=" + values[b], a == b);
            }
        }
    }

    private static void quotients() {
        sentence("/ gives the greatest whole number not above, by 0 it gives 0");
        int[][] quotients = {{5, 3, 1}, {6, 3, 2}, {7, 3, 2}, {1, 1, 1}, {0, 5, 0}, {1, 9999, 0}, {9999, 1, 9999}, {9999, 9998, 1}};
        for (int[] q : quotients) {
            int up = q[0] % q[1] == 0 ? q[2] : q[2] + 1;
            sum(q[0] + "/" + q[1], q[2]);
            sum("(0-" + q[0] + ")/" + q[1], -up);
            sum(q[0] + "/(0-" + q[1] + ")", -up);
            sum("(0-" + q[0] + ")/(0-" + q[1] + ")", q[2]);
        }
        sum("7/0", 0);
        sum("0/0", 0);
        sum("(0-7)/0", 0);
        sum("7/0+1", 1);
        sum("5/(3-3)", 0);
        sum("1000*1000/(0-1)", -1000000);
        sum("(0-1000*1000)/(0-1)", 1000000);
    }

    /** 999 * 1001 is 999999, 101 * 9901 is 1000001. */
    private static void held() {
        sentence("each sum, difference, product above 10 to the 6 is that, below -10 to the 6 likewise");
        sum("999*1001", 999999);
        sum("1000*1000", 1000000);
        sum("101*9901", 1000000);
        sum("9999*9999", 1000000);
        sum("1000*1000*(1000*1000)", 1000000);
        sum("101*9901-1", 999999);
        sum("(0-999)*1001", -999999);
        sum("(0-1000)*1000", -1000000);
        sum("(0-101)*9901", -1000000);
        sum("(0-101)*9901+1", -999999);
        sum("1000*1000*(0-1000*1000)", -1000000);
        sum("999*1001+1", 1000000);
        sum("999*1001+2", 1000000);
        sum("999*1001+2-1", 999999);
        sum("1000*1000+1000*1000", 1000000);
        sum("0-999*1001+(0-1)", -1000000);
        sum("0-999*1001+(0-2)", -1000000);
        sum("0-999*1001+(0-2)+1", -999999);
        sum("0-999*1001-1", -1000000);
        sum("0-999*1001-2", -1000000);
        sum("0-999*1001-2+1", -999999);
        sum("0-1000*1000-1000*1000", -1000000);
        sum("999*1001-(0-1)", 1000000);
        sum("999*1001-(0-2)", 1000000);
        sum("999*1001-(0-2)-1", 999999);
    }

    private static void leastAndMost() {
        sentence("min ( SUM , SUM ) ; max ( SUM , SUM )");
        sum("min(2,3)", 2);
        sum("min(3,3)", 3);
        sum("min(4,3)", 3);
        sum("max(2,3)", 3);
        sum("max(3,3)", 3);
        sum("max(4,3)", 4);
        sum("min(0-1,0)", -1);
        sum("max(0-1,0)", 0);
    }

    /** Which words are in which formula; the others are FAULTS at their first byte. */
    private static void wordsOfFormulas() {
        sentence("in keeps, fades, bears: depth; wits; known; in keeps, bears: lung; tide; in fades: strength; rooted.");
        String[] kinds = {"tide", "keeps", "fades", "bears"};
        String[] words = {"hour", "depth", "wits", "known", "lung", "tide", "strength", "rooted", "number", "knows", "ready"};
        String[] whose = {"tkfb", "kfb", "kfb", "kfb", "kb", "kb", "f", "f", "", "", ""};
        for (String kind : kinds) {
            for (int w = 0; w < words.length; w++) {
                String start = kind + (kind.equals("bears") ? " 1<" : " 1+");
                if (whose[w].indexOf(kind.charAt(0)) >= 0) {
                    good(start + words[w] + ";");
                } else {
                    beach(start + words[w] + ";", 1, start.length());
                    beach(start + words[w] + " 0;", 1, start.length());
                }
            }
        }
    }

    private static void without() {
        sentence("Without: tide is 9, keeps is 20+wits*5-depth, fades is strength-1, bears is all.");
        DeepBathing x = Asked.told("idea a depth 0;idea b depth 9;bather s lung 0 wits 0;bather t lung 9 wits 9;");
        due("tide", 9, x.has(5));
        due("ready", 3, x.bather(0, 3));
        due("20", 20, x.keeps(0, 0));
        due("20-9", 11, x.keeps(0, 1));
        due("20+45", 65, x.keeps(1, 0));
        due("20+45-9", 56, x.keeps(1, 1));
        x.duck(0, 1);
        x.hours(1);
        due("fades by one", 10, x.knows(0, 1));
        x.hours(9);
        due("to the last one", 1, x.knows(0, 1));
        x.hours(1);
        due("and none", 0, x.knows(0, 1));
        x = Asked.told("idea a depth 9;bather s lung 0 wits 0;tide 8;keeps 7;fades strength-3;bears 1=2;");
        due("with", 8, x.has(5));
        due("with", 7, x.keeps(0, 0));
        due("with", 0, x.bather(0, 3));
    }

    // ---- NAMES, blanks

    private static void letters() {
        sentence("NAMES: 1 to 6 letters");
        beach("idea  depth 1;", 1, 6);
        beach("idea ;", 1, 5);
        String name = "abcdefghijklmnopqrstuvwxyz";
        for (int n = 1; n <= 6; n++) {
            DeepBathing x = Asked.told("idea " + name.substring(0, n) + " depth 1;");
            due(n + " letters", n, x.letter(0, 0, n - 1));
            due("none behind " + n, n == 6 ? NONE : 0, x.letter(0, 0, n));
        }
        sentence("a 7th letter at itself");
        beach("idea abcdef depth 1;", 0, NONE);
        beach("idea abcdefg depth 1;", 1, 11);
        beach("idea abcdefgh depth 1;", 1, 11);
        beach("idea " + name + " depth 1;", 1, 11);
        beach("idea abcdefg", 1, 11);
        behind(IB, "need iiiiiii", 1, 11);
        behind(IB, "plan b in iiiiiii", 1, 16);
        behind(IB, "bather bbbbbbb", 1, 13);
        beach("idea abcdef1 depth 1;", 1, 11);
        for (int c = 0; c < 256; c++) {
            if (c != 10 && c != 32) {
                boolean letter = c >= 'a' && c <= 'z';
                beach("idea " + (char) c + " depth 1;", letter ? 0 : 1, letter ? NONE : 5);
                beach("idea i" + (char) c + " depth 1;", letter && c != 'n' ? 0 : 1, c == 'n' ? 5 : letter ? NONE : 6);
            }
        }
    }

    private static void ownWords() {
        sentence("no OWN WORD");
        sentence("OWN WORDS: idea, depth, need, for, bather, lung, wits, plan, in, tide, keeps, fades, bears, squall, hour, known, strength, rooted, number, knows, ready, or, and, not, all, min, max.");
        due("how many", 27, OWN_WORDS.size());
        for (String word : OWN_WORDS) {
            beach("idea " + word + " depth 1;", 1, 5);
            beach("idea " + word, 1, 5);
            beach("bather " + word + " lung 1 wits 1;", 1, 7);
            behind(IB, "need " + word, 1, 5);
            behind(IB, "need i for " + word, 1, 11);
            behind(IB, "plan " + word, 1, 5);
            behind(IB, "plan b in " + word, 1, 10);
            String less = word.substring(0, word.length() - 1);
            if (less.length() <= 6 && !OWN_WORDS.contains(less)) {
                good("idea " + less + " depth 1;");
            }
            String more = word + "x";
            if (more.length() <= 6) {
                good("idea " + more + " depth 1;");
                good("idea x" + word + " depth 1;");
            } else {
                beach("idea " + more + " depth 1;", 1, 11);
            }
        }
        for (String word : new String[] {"first", "last", "often", "total", "most", "least", "beach", "test", "sum"}) {
            good("idea " + word + " depth 1;bather x" + word.charAt(0) + " lung 1 wits 1;plan x" + word.charAt(0) + " in " + word + ";");
        }
    }

    private static void unlike() {
        sentence("unlike ones (of both sorts)");
        good("idea abcdef depth 1;idea abcdeg depth 1;bather abcdeh lung 1 wits 1;bather abcde lung 1 wits 1;");
        behind("idea abcdef depth 1;", "idea abcdef", 3, 5);
        behind("idea abcdef depth 1;", "bather abcdef lung 10", 3, 7);
        behind("bather abcdef lung 1 wits 1;", "bather abcdef", 3, 7);
        behind("bather abcdef lung 1 wits 1;", "idea abcdef depth 10;", 3, 5);
        behind(Asked.ideas(7, 0) + Asked.bathers(5), "idea ig", 3, 5);
        behind(Asked.ideas(7, 0) + Asked.bathers(5), "bather be", 3, 7);
        sentence("told ahead of where they are asked");
        good(IB + "plan b in i;");
        beach("idea i depth 1;plan b in i;bather b lung 1 wits 1;", 3, 20);
        beach("bather b lung 1 wits 1;plan b in i;idea i depth 1;", 3, 33);
        beach("idea i depth 1;need i for j;idea j depth 1;", 3, 26);
        beach("need i for j;idea i depth 1;idea j depth 1;", 3, 5);
    }

    private static void blanks() {
        sentence("Blanks (10, 32) are where one likes (words and numbers side by side need one).");
        for (int c = 0; c < 256; c++) {
            boolean blank = c == 10 || c == 32;
            boolean joins = c >= 'a' && c <= 'z';
            beach("idea" + (char) c + "a depth 1;", blank ? 0 : 1, blank ? NONE : joins ? 0 : 4);
            beach("idea a depth" + (char) c + "1;", blank ? 0 : 1, blank ? NONE : joins ? 7 : 12);
            if (c < '0' || c > '9') {
                beach((char) c + "squall 1;", blank ? 0 : 1, blank ? NONE : 0);
                beach("squall 1;" + (char) c, blank ? 0 : 1, blank ? NONE : 9);
            }
        }
        good("\n \nidea\n\na  depth\n1 ; \n bather\nb lung 1\nwits 1;\n");
        good("tide(1)+min(hour,2)*max ( 3 , 4 )-5/hour;bears[1=1]and not[hour<1]or[all];");
        good("tide\n(\n1\n)\n;");
        beach("idea a depth1;", 1, 12);
        beach("idea a1 depth 1;", 1, 6);
        beach("bather b lung 6wits 1;", 1, 15);
        beach("bather b lung6 wits 1;", 1, 13);
        beach("squall1;", 1, 6);
        beach("tide1;", 1, 4);
        beach("tide 1hour;", 1, 6);
        beach("tide hour1;", 1, 9);
        beach("bears 1=1and all;", 1, 9);
        beach("bears 1=1 and1=1;", 1, 13);
        beach("bears not1=1;", 1, 9);
        beach("bears 1=1 or 1=1or all;", 1, 16);
        beach("ideaa depth 1;", 1, 0);
        beach("tide 1 1;", 1, 7);
    }

    // ---- FAULTS

    private static void noSuchText() {
        sentence("1 the first byte with which no such text goes on (words and numbers whole, at their first byte");
        beach("ideas a depth 1;", 1, 0);
        beach("ide a depth 1;", 1, 0);
        beach("x", 1, 0);
        beach("abcdefghij", 1, 0);
        beach("12345", 1, 0);
        beach("idea 12345", 1, 5);
        beach("idea a deptha 1;", 1, 7);
        beach("idea a dept 1;", 1, 7);
        beach("idea a lung 1;", 1, 7);
        beach("idea a 12345;", 1, 7);
        beach("idea a depth abcdefgh;", 1, 13);
        beach("idea a depth hour;", 1, 13);
        beach("tide abcdefgh;", 1, 5);
        beach("tide hours;", 1, 5);
        beach("tide 1 + abcdefgh;", 1, 9);
        beach("bears alls;", 1, 6);
        beach("bears all ands all;", 1, 10);
        beach("bears all 12345;", 1, 10);
        beach("idea a depth 1;;", 1, 15);
        beach("idea a depth 1 idea", 1, 15);
        sentence("where a NAME is asked, an OWN WORD so");
        beach("idea strength", 1, 5);
        beach("bather strength", 1, 7);
        sentence("where a number is asked, a 5th digit at itself");
        beach("idea a depth 0001;", 0, NONE);
        beach("idea a depth 00010;", 1, 17);
        beach("idea a depth 000100;", 1, 17);
        beach("bather b lung 00001 wits 1;", 1, 18);
        beach("bather b lung 1 wits 00001;", 1, 25);
        beach("squall 0100;", 0, NONE);
        beach("squall 00100;", 1, 11);
        beach("keeps 12345;", 1, 10);
        beach("fades 1+12345;", 1, 12);
        beach("bears 1<12345;", 1, 12);
    }

    private static void tooSoon() {
        sentence("at the text's length, if it ends too soon");
        String text = "idea abc depth 5;";
        int[] places = {NONE, 0, 0, 0, 4, 5, 6, 7, 8, 9, 9, 9, 9, 9, 14, 15, 16, NONE};
        for (int n = 0; n <= text.length(); n++) {
            beach(text.substring(0, n), places[n] == NONE ? 0 : 1, places[n]);
        }
        text = "bears not[min(1,hour)=2];";
        places = new int[] {NONE, 0, 0, 0, 0, 5, 6, 6, 6, 9, 10, 10, 10, 13, 14, 15, 16, 16, 16, 16, 20, 21, 22, 23, 24, NONE};
        for (int n = 0; n <= text.length(); n++) {
            beach(text.substring(0, n), places[n] == NONE ? 0 : 1, places[n]);
        }
        beach("squall", 1, 6);
        beach("squall ", 1, 7);
        beach("squall \n \n", 1, 10);
        beach("squall 1", 1, 8);
        beach("squall 1  ", 1, 10);
        behind(IB, "plan b", 1, 6);
        behind(IB, "plan b in ", 1, 10);
        behind(IB, "need i for\n", 1, 11);
    }

    private static void noSuchNumber() {
        sentence("2 a number that can't be, at it");
        beach("idea a depth 9;", 0, NONE);
        beach("idea a depth 10;", 2, 13);
        beach("idea a depth  \n10", 2, 15);
        beach("idea a depth 10x", 2, 13);
        beach("bather b lung 9 wits 9;", 0, NONE);
        beach("bather b lung 10", 2, 14);
        beach("bather b lung 9 wits 10", 2, 21);
        beach("squall 101", 2, 7);
    }

    private static void noSuchName() {
        sentence("3 a NAME to be given that is there already, one that is none of what is asked");
        String all = IB + "idea j depth 1;bather c lung 1 wits 1;";
        for (String there : new String[] {"i", "j", "b", "c"}) {
            behind(all, "idea " + there, 3, 5);
            behind(all, "bather " + there, 3, 7);
        }
        for (String none : new String[] {"b", "c", "x", "ij", "iiiiii"}) {
            behind(all, "need " + none, 3, 5);
            behind(all, "need i for " + none, 3, 11);
            behind(all, "plan b in " + none, 3, 10);
        }
        for (String none : new String[] {"i", "j", "x", "bc", "bbbbbb"}) {
            behind(all, "plan " + none, 3, 5);
        }
        sentence("a second IDEA of a NEED that is not told behind the first, or of one that is told already, at it");
        good(all + "need i for j;");
        behind(all, "need i for i", 3, 11);
        behind(all, "need j for i", 3, 11);
        behind(all, "need j  for\ni;", 3, 12);
        behind(all + "need i for j;", "need i for j", 3, 11);
    }

    private static void tooDeep() {
        sentence("4 the 7th of ( [ not that is open at once (not until its FACT ends), at it");
        good("tide " + times(6, "(") + "1" + times(6, ")") + ";");
        beach("tide " + times(7, "(") + "1" + times(7, ")") + ";", 4, 11);
        beach("tide " + times(7, "("), 4, 11);
        beach("tide " + times(6, "("), 1, 11);
        good("bears " + times(6, "[") + "all" + times(6, "]") + ";");
        beach("bears " + times(7, "[") + "all" + times(7, "]") + ";", 4, 12);
        good("bears " + times(6, "not ") + "all;");
        beach("bears " + times(7, "not ") + "all;", 4, 30);
        good("bears " + times(6, "not ") + "1=1;");
        beach("bears " + times(6, "not ") + "(1)=1;", 4, 30);
        beach("bears " + times(6, "not ") + "1=(1);", 4, 32);
        beach("bears " + times(6, "not ") + "[all];", 4, 30);
        good("bears " + times(5, "not ") + "(1)=(1);");
        good("bears not[not[not(1)=(1)]];");
        good("bears not[not[not[1=1]]];");
        beach("bears not[not[not[(1)=1]]];", 4, 18);
        good("keeps min(min(min(min(min(min(1,1),1),1),1),1),1);");
        beach("keeps min(min(min(min(min(min(min(1", 4, 33);
        beach("keeps max(1,max(1,max(1,max(1,max(1,max(1,max(1", 4, 45);
        beach("keeps max(((((((1", 4, 15);
        good("fades (1)+(1)+(1)+(1)+(1)+(1)+(1)+(1);");
        good("fades ((((((1))))))+((((((1))))));");
        good("bears not all and not all or not all and not all or not all and not all or not all;");
        good("bears not 1=1 and [not [not [[all]]]] and " + times(6, "not ") + "all and " + times(6, "[") + "all" + times(6, "]") + ";");
        beach("bears not 1=1 and " + times(6, "[") + "all and not all", 4, 32);
        good("bears " + times(5, "[") + "not all and not all or [all] and (1)=1" + times(5, "]") + ";");
    }

    private static void tooMany() {
        sentence("5 one too many of a kind (a second tide, keeps, fades, bears, too), a 61st STATEMENT");
        String full = Asked.ideas(8, 0) + Asked.bathers(6) + needs(16) + times(16, "plan ba in ia;") + "tide 1;keeps 1;fades 1;bears all;squall 1;";
        good(full);
        for (String word : new String[] {"idea", "bather", "need", "plan", "tide", "keeps", "fades", "bears"}) {
            behind(full, word, 5, 0);
            behind(full, "\n\n" + word + " 12345", 5, 2);
            behind(full, word + "x", 1, 0);
        }
        good(full + times(9, "squall 2;"));
        behind(full + times(9, "squall 2;"), "squall 2;", 5, 0);
    }

    private static void firstAlongTheText() {
        sentence("FAULTS, the first along the text");
        beach("?idea a depth 10;", 1, 0);
        beach("idea a depth 10?", 2, 13);
        beach("idea a depth 1?idea a depth 10;", 1, 14);
        beach("idea a depth 1;idea a depth 10;", 3, 20);
        beach("idea a depth 1;idea b depth 10;idea a depth 1;", 2, 28);
        beach("tide ((((((((1;", 4, 11);
        beach("tide ?((((((((1;", 1, 5);
        beach("tide 1;tide ((((((((1;", 5, 7);
        beach("tide 12345+((((((((1;", 1, 9);
        beach("need x for y;", 3, 5);
        beach("need in for y;", 1, 5);
        behind(Asked.ideas(8, 0), "idea ia depth 12345;", 5, 0);
        behind(times(59, "squall 1;"), "squall 101;?", 2, 7);
        behind(times(59, "squall 1;"), "squall 10;?", 5, 10);
    }

    public static void main(String[] args) {
        statements();
        ideas();
        needs();
        bathers();
        rows();
        oneEach();
        numbers();
        fromTheLeft();
        signs();
        quotients();
        held();
        leastAndMost();
        wordsOfFormulas();
        without();
        letters();
        ownWords();
        unlike();
        blanks();
        noSuchText();
        tooSoon();
        noSuchNumber();
        noSuchName();
        tooDeep();
        tooMany();
        firstAlongTheText();
        Asked.end();
    }
}
