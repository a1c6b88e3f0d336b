/** Terms I, IV: how TEST, SUM and PART are made, what each word in them stands for. */
public final class GrammarTest {
    private static final int NONE = DeepBathing.NONE;
    private static final String[] SIGNS = {"+", "-", "*", "/"};
    private static final String BODY = "bather b lung 0 wits 0;";

    private static void sentence(String words) {
        Asked.sentence(words);
    }

    private static void due(String what, long want, long got) {
        Asked.due(what, want, got);
    }

    private static void good(String text) {
        Asked.beach(text, 0, NONE);
    }

    private static void bad(String text, int place) {
        Asked.beach(text, 1, place);
    }

    private static String fact(boolean so) {
        return so ? "all" : "1=2";
    }

    private static void tests() {
        sentence("TEST: BOTH { or BOTH }. BOTH: FACT { and FACT }.");
        for (int bits = 0; bits < 16; bits++) {
            DeepBathing x = Asked.told(BODY);
            boolean a = (bits & 1) != 0;
            boolean b = (bits & 2) != 0;
            boolean c = (bits & 4) != 0;
            boolean d = (bits & 8) != 0;
            holds(x, fact(a), a);
            holds(x, fact(a) + " and " + fact(b), a && b);
            holds(x, fact(a) + " or " + fact(b), a || b);
            holds(x, fact(a) + " and " + fact(b) + " or " + fact(c) + " and " + fact(d), a && b || c && d);
            holds(x, fact(a) + " or " + fact(b) + " and " + fact(c) + " or " + fact(d), a || b && c || d);
            holds(x, fact(a) + " or " + fact(b) + " or " + fact(c) + " and " + fact(d), a || b || c && d);
            holds(x, fact(a) + " and " + fact(b) + " and " + fact(c) + " or " + fact(d), a && b && c || d);
            holds(x, fact(a) + " and " + fact(b) + " and " + fact(c) + " and " + fact(d), a && b && c && d);
            holds(x, fact(a) + " or " + fact(b) + " or " + fact(c) + " or " + fact(d), a || b || c || d);
            holds(x, "[" + fact(a) + " or " + fact(b) + "] and [" + fact(c) + " or " + fact(d) + "]", (a || b) && (c || d));
            holds(x, "not " + fact(a) + " and " + fact(b) + " or not " + fact(c), !a && b || !c);
            holds(x, "not [" + fact(a) + " and " + fact(b) + "] or " + fact(c), !(a && b) || c);
        }
        bad("bears ;", 6);
        bad("bears and all;", 6);
        bad("bears or all;", 6);
        bad("bears all and;", 13);
        bad("bears all or;", 12);
        bad("bears all and or all;", 14);
        bad("bears all all;", 10);
        bad("bears all not all;", 10);
        bad("bears all [all];", 10);
        bad("bears [];", 7);
        bad("bears [all;", 10);
        bad("bears all];", 9);
        bad("bears (all);", 7);
        bad("bears [1];", 8);
        bad("bears not;", 9);
        bad("bears 1;", 7);
        bad("bears 1+all;", 8);
        bad("bears all=all;", 9);
        bad("bears 1<2<3;", 9);
        bad("bears 1<=2;", 8);
    }

    /** As bears, and as a QUESTION. */
    private static void holds(DeepBathing x, String test, boolean so) {
        due("often " + test, so ? 1 : 0, Asked.ask(x, "often " + test));
        due("first " + test, so ? 0 : NONE, Asked.ask(x, "first " + test));
        due("bears " + test, so ? 1 : 0, Asked.told("idea a depth 0;" + BODY + "bears " + test + ";").bather(0, 3));
    }

    private static long value(long a, String sign, long b) {
        switch (sign) {
            case "+": return a + b;
            case "-": return a - b;
            case "*": return a * b;
            default: return b == 0 ? 0 : Math.floorDiv(a, b);
        }
    }

    private static boolean isProduct(String sign) {
        return sign.equals("*") || sign.equals("/");
    }

    private static void sums() {
        sentence("SUM: PRODUCT { + or - PRODUCT }. PRODUCT: PART { * or / PART }.");
        int[][] numbers = {{7, 3, 2}, {20, 4, 5}, {1, 9, 0}, {0, 8, 3}, {9, 9, 9}};
        for (int[] n : numbers) {
            DeepBathing x = Asked.told(BODY);
            for (String one : SIGNS) {
                for (String two : SIGNS) {
                    boolean second = isProduct(two) && !isProduct(one);
                    long left = value(value(n[0], one, n[1]), two, n[2]);
                    long right = value(n[0], one, value(n[1], two, n[2]));
                    String sum = n[0] + one + n[1] + two + n[2];
                    due(sum, second ? right : left, Asked.ask(x, "total " + sum));
                    due("(" + sum + ")", second ? right : left, Asked.ask(x, "total (" + sum + ")"));
                    String forced = n[0] + one + "(" + n[1] + two + n[2] + ")";
                    due(forced, right, Asked.ask(x, "total " + forced));
                }
            }
        }
        bad("tide +1;", 5);
        bad("tide -1;", 5);
        bad("tide *1;", 5);
        bad("tide /1;", 5);
        for (String sign : SIGNS) {
            bad("tide 1" + sign + ";", 7);
            bad("tide 1" + sign + sign + "1;", 7);
            bad("tide 1" + sign + "-1;", 7);
            good("tide 1 " + sign + "\n1;");
        }
        bad("tide 1%2;", 6);
        bad("tide 1=1;", 6);
        bad("tide 1<1;", 6);
        bad("tide 1 and 1;", 7);
    }

    private static void parts() {
        sentence("PART: N (1 to 4 digits); hour; ( SUM ) ; min ( SUM , SUM ) ; max ( SUM , SUM )");
        for (String kind : new String[] {"tide ", "keeps ", "fades ", "bears 1<"}) {
            for (String part : new String[] {"7", "42", "999", "9999", "hour", "(1)", "(1+hour)", "min(1,2)", "max(1*2,3+hour)",
                "min(max(1,2),(3))", "max ( hour , ( 1 ) )"}) {
                good(kind + part + ";");
            }
            int at = kind.length();
            bad(kind + "12345;", at + 4);
            bad(kind + "();", at + 1);
            bad(kind + "(1;", at + 2);
            bad(kind + "1);", at + 1);
            bad(kind + "(1));", at + 3);
            bad(kind + "(1,2);", at + 2);
            bad(kind + "(1=1);", at + 2);
            bad(kind + "(all);", at + 1);
            bad(kind + "[1];", at);
            bad(kind + "min;", at + 3);
            bad(kind + "min 1;", at + 4);
            bad(kind + "min(1);", at + 5);
            bad(kind + "min(1,);", at + 6);
            bad(kind + "max(,1);", at + 4);
            bad(kind + "max(1,2,3);", at + 7);
            bad(kind + "max(1 2);", at + 6);
            bad(kind + "max[1,2];", at + 3);
            bad(kind + "minx(1,2);", at);
            bad(kind + "all;", at);
            bad(kind + "not;", at);
            bad(kind + "x;", at);
            bad(kind + "HOUR;", at);
        }
    }

    /** Two BATHERS, two IDEAS: c NEEDS a. HOUR 5, TIDE 8; s knows a by 30, t knows c by 40. */
    private static DeepBathing pair(String formula) {
        DeepBathing x = Asked.told("idea a depth 2;idea c depth 6;need a for c;"
                + "bather s lung 4 wits 3;bather t lung 9 wits 7;tide hour+3;" + formula);
        Asked.put(x, Asked.image(0, 5, 30, 0, 0, 40));
        Asked.due("on", true, x.on());
        return x;
    }

    private static void keeps(String word, int sa, int sc, int ta, int tc) {
        DeepBathing x = pair("keeps 50+" + word + ";");
        due("keeps " + word, 50 + sa, x.keeps(0, 0));
        due("keeps " + word, 50 + sc, x.keeps(0, 1));
        due("keeps " + word, 50 + ta, x.keeps(1, 0));
        due("keeps " + word, 50 + tc, x.keeps(1, 1));
    }

    /** The one IDEA that each knows now, in an HOUR. */
    private static void fades(String word, int sa, int tc) {
        DeepBathing x = pair("fades 50+" + word + ";");
        due("fades " + word, 50 + sa, x.later(0, 0, 1));
        due("fades " + word, 50 + tc, x.later(1, 1, 1));
        due("fades not what is not known", 0, x.later(0, 1, 1) + x.later(1, 0, 1));
    }

    /** Nobody is READY for what he lacks the NEED of: s is for both, t for a alone. */
    private static void bears(String word, int sa, int sc, int ta) {
        for (int n = 0; n <= 10; n++) {
            DeepBathing x = pair("bears " + word + "=" + n + ";");
            due("bears " + word + "=" + n, (sa == n ? 1 : 0) + (sc == n ? 2 : 0), x.bather(0, 3));
            due("bears " + word + "=" + n, ta == n ? 1 : 0, x.bather(1, 3));
        }
    }

    private static void meanings() {
        sentence("(The HOUR; of the IDEA its depth; of the BATHER his wits, how many IDEAS he knows, his lung; how high the TIDE is; how strongly he knows that IDEA, 1 if he knows all that it needs, else 0.)");
        keeps("hour", 5, 5, 5, 5);
        keeps("depth", 2, 6, 2, 6);
        keeps("wits", 3, 3, 7, 7);
        keeps("known", 1, 1, 1, 1);
        keeps("lung", 4, 4, 9, 9);
        keeps("tide", 8, 8, 8, 8);
        bears("hour", 5, 5, 5);
        bears("depth", 2, 6, 2);
        bears("wits", 3, 3, 7);
        bears("known", 1, 1, 1);
        bears("lung", 4, 4, 9);
        bears("tide", 8, 8, 8);
        fades("hour", 5, 5);
        fades("depth", 2, 6);
        fades("wits", 3, 7);
        fades("known", 1, 1);
        fades("strength", 30, 40);
        fades("rooted", 1, 0);
        for (int hour = 0; hour <= 9; hour++) {
            DeepBathing x = Asked.told("tide hour;");
            due("tide hour", hour, x.tide(hour));
        }
        for (int known = 0; known <= 3; known++) {
            DeepBathing x = Asked.told(Asked.ideas(4, 0) + BODY + "keeps 50+known;");
            Asked.put(x, Asked.image(0, 0, 0, known > 0 ? 9 : 0, known > 1 ? 9 : 0, known > 2 ? 9 : 0));
            x.on();
            due("how many he knows", 50 + known, x.keeps(0, 0));
        }
        rooted();
    }

    /** d NEEDS a and c; c NEEDS a. */
    private static void rooted() {
        for (int bits = 0; bits < 4; bits++) {
            DeepBathing x = Asked.told("idea a depth 0;idea c depth 0;idea d depth 0;need a for c;need a for d;need c for d;" + BODY
                    + "fades strength+rooted;");
            Asked.put(x, Asked.image(0, 0, 20 * (bits & 1), 10 * (bits & 2), 50));
            x.on();
            due("a needs nothing", bits % 2 == 0 ? 0 : 21, x.later(0, 0, 1));
            due("c needs a", bits < 2 ? 0 : 20 + bits % 2, x.later(0, 1, 1));
            due("d needs both", bits == 3 ? 51 : 50, x.later(0, 2, 1));
        }
    }

    private static void ofQuestions() {
        sentence("A QUESTION is a text, of all BATHERS");
        sentence("TEST, SUM as in I, but PART: N; number; lung; wits; known; hour; tide; knows PART; ready PART; ( SUM ) ; min ( SUM , SUM ) ; max ( SUM , SUM ) .");
        DeepBathing x = pair("");
        String[] words = {"7", "number", "lung", "wits", "known", "hour", "tide", "knows 0", "knows 1", "ready 0", "ready 1",
            "(number+1)", "min(lung,6)", "max(wits,5)", "knows number", "ready ready number"};
        int[] s = {7, 0, 4, 3, 1, 5, 8, 30, 0, 1, 1, 1, 4, 5, 30, 1};
        int[] t = {7, 1, 9, 7, 1, 5, 8, 0, 40, 1, 0, 2, 6, 7, 40, 1};
        for (int k = 0; k < words.length; k++) {
            due("total " + words[k], s[k] + t[k], Asked.ask(x, "total " + words[k]));
            due("most " + words[k], Math.max(s[k], t[k]), Asked.ask(x, "most " + words[k]));
            due("least " + words[k], Math.min(s[k], t[k]), Asked.ask(x, "least " + words[k]));
            due("often " + words[k], 1 + (s[k] == t[k] ? 1 : 0), Asked.ask(x, "often " + words[k] + "=" + s[k]));
            due("first " + words[k], s[k] == t[k] ? 0 : 1, Asked.ask(x, "first " + words[k] + "=" + t[k]));
            due("last " + words[k], s[k] == t[k] ? 1 : 0, Asked.ask(x, "last " + words[k] + "=" + s[k]));
        }
        due("all of a TEST", 1, Asked.ask(x, "first not [lung<9 or wits=3] and knows 1>39"));
        due("all of a SUM", 8 - 15 / 4 + 3 * 2 + 8 - 15 / 4 + 3 * 2, Asked.ask(x, "total 8-15/4+3*2"));
        for (String word : new String[] {"first", "last", "often"}) {
            Asked.question(word + " all", 0, NONE);
            Asked.question(word + " number", 1, word.length() + 7);
        }
        String[] bad = {"()", "(1", "1)", "(1,2)", "(1=1)", "(all)", "min", "min 1", "max x(1,2)", "min(1)", "min(1,)", "max(,1)", "max(1,2,3)",
            "max(1 2)", "max[1,2]", "knows", "ready", "knows -1", "knows all", "knows min", "ready x", "knowsx 1", "1+", "1*", "12345"};
        int[] places = {1, 2, 1, 2, 2, 1, 3, 4, 4, 5, 6, 4, 7, 6, 3, 5, 5, 6, 6, 9, 6, 0, 2, 2, 4};
        for (int k = 0; k < bad.length; k++) {
            Asked.question("total " + bad[k], 1, 6 + places[k]);
            Asked.question("most number*" + bad[k], 1, 12 + places[k]);
            Asked.question("first 1<" + bad[k], 1, 8 + places[k]);
        }
        for (String word : new String[] {"total", "most", "least"}) {
            Asked.question(word + " number", 0, NONE);
            Asked.question(word + " all", 1, word.length() + 1);
            Asked.question(word + " not 1", 1, word.length() + 1);
            Asked.question(word + " [1]", 1, word.length() + 1);
        }
    }

    public static void main(String[] args) {
        tests();
        sums();
        parts();
        meanings();
        ofQuestions();
        Asked.end();
    }
}
