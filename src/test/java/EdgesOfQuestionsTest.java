/** Terms IV: each sentence that names a boundary of QUESTIONS and IMAGES. */
public final class EdgesOfQuestionsTest {
    private static final int NONE = DeepBathing.NONE;

    private static void sentence(String words) {
        Asked.sentence(words);
    }

    private static void due(String what, long want, long got) {
        Asked.due(what, want, got);
    }

    private static void due(String what, boolean want, boolean got) {
        Asked.due(what, want, got);
    }

    private static void ask(DeepBathing x, String question, long want) {
        due(question, want, Asked.ask(x, question));
        due("fault of " + question, 0, x.fault(0));
        due("place of " + question, NONE, x.fault(1));
    }

    private static void fault(String question, int fault, int place) {
        Asked.question(question, fault, place);
    }

    private static void good(String question) {
        Asked.question(question, 0, NONE);
    }

    private static String times(int n, String text) {
        return Asked.times(n, text);
    }

    private static void questions() {
        sentence("first TEST, last TEST (the first, the last BATHER for whom it holds), often TEST (for how many)");
        for (int n = 0; n <= 6; n++) {
            DeepBathing x = Asked.told(Asked.bathers(n));
            ask(x, "first all", n == 0 ? NONE : 0);
            ask(x, "last all", n - 1);
            ask(x, "often all", n);
            ask(x, "first not all", NONE);
            ask(x, "last not all", NONE);
            ask(x, "often not all", 0);
            for (int b = 0; b <= 6; b++) {
                ask(x, "first number=" + b, b < n ? b : NONE);
                ask(x, "last number=" + b, b < n ? b : NONE);
                ask(x, "often number=" + b, b < n ? 1 : 0);
                ask(x, "first number>" + b, b + 1 < n ? b + 1 : NONE);
                ask(x, "last number<" + b, Math.min(b, n) - 1);
                ask(x, "often number<" + b, Math.min(b, n));
            }
        }
        sentence("total SUM (of all together, not held)");
        DeepBathing x = Asked.told(Asked.bathers(6));
        ask(x, "total 1000*1000", 6000000);
        ask(x, "total 999*1001", 6 * 999999);
        ask(x, "total 101*9901", 6000000);
        ask(x, "total 0-1000*1000", -6000000);
        ask(x, "total 1000*1000*(1-number)", -3000000);
        ask(x, "total number", 15);
        ask(new DeepBathing(), "total 1000*1000", 0);
        sentence("most SUM, least SUM (the greatest, the least of all; 0 without BATHERS)");
        ask(new DeepBathing(), "most 5", 0);
        ask(new DeepBathing(), "least 5", 0);
        ask(new DeepBathing(), "most 0-5", 0);
        ask(new DeepBathing(), "least 0-5", 0);
        for (int n = 1; n <= 6; n++) {
            x = Asked.told(Asked.bathers(n));
            ask(x, "most number", n - 1);
            ask(x, "least number", 0);
            ask(x, "most 0-1-number", -1);
            ask(x, "least 0-1-number", -n);
            ask(x, "most 5", 5);
            ask(x, "least 5", 5);
            ask(x, "most 9999*9999", 1000000);
            ask(x, "least 0-9999*9999", -1000000);
        }
    }

    private static void parts() {
        sentence("PART: N; number; lung; wits; known; hour; tide; knows PART; ready PART; ( SUM ) ; min ( SUM , SUM ) ; max ( SUM , SUM ) .");
        DeepBathing x = Asked.told("idea a depth 3;bather b lung 7 wits 8;tide hour-990;");
        x.duck(0, 0);
        ask(x, "total 9999", 9999);
        ask(x, "total lung", 7);
        ask(x, "total wits", 8);
        ask(x, "total known", 0);
        ask(x, "total hour", 0);
        ask(x, "total tide", 0);
        Asked.at(x, 999);
        x.duck(0, 0);
        ask(x, "total known", 1);
        ask(x, "total hour", 999);
        ask(x, "total tide", 9);
        ask(x, "total knows 0", 57);
        for (String word : new String[] {"depth", "strength", "rooted", "idea", "squall", "in", "first", "x", "all", "not"}) {
            fault("total " + word, 1, 6);
            fault("total 1+" + word, 1, 8);
            fault("total knows " + word, 1, 12);
        }
        sentence("The BATHER's number; how many he knows; how strongly he knows the IDEA of that number, 1 if he is READY for it now, else 0: 0 of one that there is not.");
        for (int n = 0; n <= 8; n++) {
            x = Asked.told(Asked.ideas(n, 0) + "bather b lung 0 wits 0;fades strength;");
            for (int i = 0; i < n; i++) {
                x.duck(0, i);
            }
            for (int i = 0; i <= 9; i++) {
                ask(x, "total knows " + i, i < n ? 20 : 0);
                ask(x, "total ready " + i, i < n ? 1 : 0);
            }
            ask(x, "total known", n);
            for (String none : new String[] {"(0-1)", "(0-9999*9999)", "31", "32", "33", "64", "256", "9999", "(9999*9999)"}) {
                ask(x, "total knows " + none, 0);
                ask(x, "total ready " + none, 0);
            }
        }
        x = Asked.told("idea a depth 5;idea c depth 6;idea d depth 0;need a for d;bather b lung 0 wits 0;tide 5;");
        ask(x, "total ready 0", 1);
        ask(x, "total ready 1", 0);
        ask(x, "total ready 2", 0);
        x.duck(0, 0);
        ask(x, "total ready 2", 1);
        ask(x, "total knows ready 1", 15);
        ask(x, "total ready knows 1", 1);
        ask(x, "total knows 0*2", 30);
        ask(x, "total knows 0+1", 16);
        ask(x, "total knows (0+1)", 0);
    }

    private static void faults() {
        sentence("Its FAULTS: 1 as in I (an unknown word at its first byte; what stands behind it, too)");
        good("first all");
        good(" \nfirst\nall\n ");
        fault("", 1, 0);
        fault(" \n ", 1, 3);
        fault("firs all", 1, 0);
        fault("firsts all", 1, 0);
        fault("  sum 1", 1, 2);
        fault("all", 1, 0);
        fault("12345", 1, 0);
        fault("first", 1, 5);
        fault("first ", 1, 6);
        fault("first alll", 1, 6);
        fault("first abcdefghij", 1, 6);
        fault("first 1", 1, 7);
        fault("first 1<", 1, 8);
        fault("first 1<2", 0, NONE);
        fault("first 1<2<3", 1, 9);
        fault("total 1<2", 1, 7);
        fault("total", 1, 5);
        fault("total 12345", 1, 10);
        fault("total 1234", 0, NONE);
        fault("total knows", 1, 11);
        fault("total knows ", 1, 12);
        fault("total knows 12345", 1, 16);
        fault("total min(1)", 1, 11);
        fault("total min(1,2", 1, 13);
        fault("total 1;", 1, 7);
        fault("total 1  ;", 1, 9);
        fault("total 1 1", 1, 8);
        fault("total 1 x", 1, 8);
        fault("total 1)", 1, 7);
        fault("first all]", 1, 9);
        fault("first all first all", 1, 10);
        fault("total 1\u0000", 1, 7);
        fault("total 1\t", 1, 7);
        fault("total 1\u00ff", 1, 7);
        String text = "often knows(0)>1";
        int[] places = {0, 0, 0, 0, 0, 5, 6, 6, 6, 6, 6, 11, 12, 13, 14, 15, NONE};
        for (int n = 0; n <= text.length(); n++) {
            fault(text.substring(0, n), places[n] == NONE ? 0 : 1, places[n]);
        }
        sentence("4 the 7th of ( [ not knows ready that is open at once (not until its FACT, knows, ready until its PART ends), at it.");
        for (String word : new String[] {"knows ", "ready "}) {
            good("total " + times(6, word) + "0");
            fault("total " + times(7, word) + "0", 4, 42);
            fault("total " + times(7, word), 4, 42);
            fault("total " + times(6, word) + "(0)", 4, 42);
            good("total " + times(5, word) + "(0)");
            good("total " + times(6, word) + "0+" + times(6, word) + "0");
            good("total " + times(6, word) + "0*" + times(6, word) + "hour");
            good("total " + times(5, word) + "(0)+" + times(6, "(") + "0" + times(6, ")"));
            fault("total " + times(5, "(") + word + word + "0", 4, 17);
            good("total " + times(5, "(") + word + "0" + times(5, ")"));
            good("total " + times(5, "(") + word + "0+" + word + "0" + times(5, ")"));
        }
        good("first " + times(6, "not ") + "all");
        fault("first " + times(7, "not ") + "all", 4, 30);
        fault("first " + times(6, "not ") + "knows 0=1", 4, 30);
        fault("first " + times(6, "not ") + "1=ready 0", 4, 32);
        good("first " + times(6, "not ") + "1=0 and ready 0=1");
        good("first " + times(6, "[") + "all" + times(6, "]") + " or " + times(6, "not ") + "all");
        fault("first " + times(7, "["), 4, 12);
        fault("total " + times(7, "("), 4, 12);
        good("total min(max(min(max(min(knows 0,1),1),1),1),1)");
        fault("total min(max(min(max(min(knows knows 0,1),1),1),1),1)", 4, 32);
    }

    private static void images() {
        sentence("AN IMAGE: HOUR (two bytes, the higher first)");
        int[] hours = {0, 1, 127, 128, 255, 256, 257, 511, 512, 767, 768, 998, 999};
        DeepBathing x = new DeepBathing();
        for (int hour : hours) {
            Asked.at(x, hour);
            due("bytes", 3, x.image());
            due("the higher of " + hour, hour / 256, x.octet(0));
            due("the lower of " + hour, hour % 256, x.octet(1));
            due("all ahead of " + hour, ((239 * 3 + hour / 256) % 251 * 3 + hour % 256) % 251, x.octet(2));
        }
        sentence("for each BATHER by which strength he knows each IDEA; for each row of the PLAN BATHER, IDEA; last a byte: all ahead from 239 on, c = (3 c + it) mod 251.");
        for (int bathers = 0; bathers <= 6; bathers += 3) {
            for (int ideas = 0; ideas <= 8; ideas += 4) {
                for (int rows = 0; rows <= 16; rows += bathers * ideas == 0 ? 17 : 8) {
                    imageOf(bathers, ideas, rows);
                }
            }
        }
    }

    /** An image is told, and written again. */
    private static void imageOf(int bathers, int ideas, int rows) {
        String text = Asked.ideas(ideas, 0) + Asked.bathers(bathers) + times(rows, "plan ba in ia;");
        DeepBathing x = Asked.told(text);
        int[] ahead = new int[2 + bathers * ideas + 2 * rows];
        ahead[0] = 3;
        ahead[1] = 200;
        int at = 2;
        for (int k = 0; k < bathers * ideas; k++) {
            ahead[at++] = (99 + 7 * k) % 100;
        }
        for (int k = 0; k < rows; k++) {
            ahead[at++] = (bathers - 1 + 5 * k) % bathers;
            ahead[at++] = (ideas - 1 + 3 * k) % ideas;
        }
        int[] image = Asked.image(ahead);
        Asked.put(x, image);
        due("on", true, x.on());
        due("hour", 968, x.has(4));
        for (int b = 0; b < bathers; b++) {
            for (int i = 0; i < ideas; i++) {
                due("knows", ahead[2 + b * ideas + i], x.knows(b, i));
            }
        }
        for (int k = 0; k < rows; k++) {
            due("plan", ahead[2 + bathers * ideas + 2 * k], x.plan(k, 0));
            due("plan", ahead[3 + bathers * ideas + 2 * k], x.plan(k, 1));
        }
        due("bytes", image.length, x.image());
        for (int k = 0; k < image.length; k++) {
            due("byte " + k, image[k], x.octet(k));
        }
        due("below", NONE, x.octet(-1));
        due("beyond", NONE, x.octet(image.length));
    }

    public static void main(String[] args) {
        questions();
        parts();
        faults();
        images();
        Asked.end();
    }
}
