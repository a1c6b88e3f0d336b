/** Each promise of the document by hand: what is ordinary, its edges, what it refuses. */
public final class PromiseTest {
    private static final int NONE = DeepBathing.NONE;

    /** By default keeps: tom 38 in a, 36 in b, 31 in c; ann 18, 16, 11. All fade by 1. */
    private static final String BEACH = "idea a depth 2;idea b depth 4;idea c depth 9;need a for b;need b for c;"
            + "bather tom lung 3 wits 4;bather annie lung 9 wits 0;plan tom in a;plan annie in a;plan tom in b;tide 5;squall 30;";
    /** One row: each HOUR DUCKS him. */
    private static final String ONE = "idea a depth 0;bather b lung 0 wits 0;plan b in a;";

    private static void due(String what, long want, long got) {
        Asked.due(what, want, got);
    }

    private static void due(String what, boolean want, boolean got) {
        Asked.due(what, want, got);
    }

    private static void promise1() {
        DeepBathing x = new DeepBathing();
        for (int what = 0; what <= 10; what++) {
            due("1 has " + what, what == 5 ? 9 : 0, x.has(what));
        }
        for (int what = 0; what <= 5; what++) {
            due("1 status " + what, 0, x.status(what));
        }
        due("1 NONE", -1, DeepBathing.NONE);
        due("1 NOTHING", -1000000000000000L, DeepBathing.NOTHING);
        due("1 hours", 0, x.hours(1));
    }

    private static void promise2() {
        DeepBathing x = new DeepBathing();
        due("2 first", 20, x.feed(0x66697273, 0x7420616c, 0x6c20ff00, -1, Integer.MIN_VALUE));
        due("2 end", true, x.end(9));
        due("2 the highest first", NONE, x.ask());
        due("2 no fault", 0, x.fault(0));
        for (int k = 1; k <= 80; k++) {
            due("2 more", 20 * k, x.feed(0, 0, 0, 0, 0));
        }
        due("2 too many", NONE, x.feed(0, 0, 0, 0, 0));
        due("2 refused", 1, x.status(0));
        due("2 fewer", true, x.end(1580));
        due("2 fits", 1600, x.feed(0, 0, 0, 0, 0));
        due("2 fewer by one", true, x.end(1581));
        due("2 does not fit", NONE, x.feed(0, 0, 0, 0, 0));
        due("2 refused again", 2, x.status(0));
        due("2 nothing came", true, x.end(1581));
    }

    private static void promise3() {
        DeepBathing x = new DeepBathing();
        due("3 none", true, x.end(0));
        due("3 too many", false, x.end(1));
        due("3 below", false, x.end(-1));
        due("3 refused", 2, x.status(0));
        x.feed(0x66697273, 0x7420616c, 0x6c202020, 0x20202020, 0x20202020);
        due("3 all", true, x.end(20));
        due("3 one more", false, x.end(21));
        due("3 nine", true, x.end(9));
        due("3 ten are gone", false, x.end(10));
        due("3 refused more", 4, x.status(0));
        due("3 asks", NONE, x.ask());
        due("3 no fault", 0, x.fault(0));
        due("3 it went", false, x.end(1));
    }

    private static void promise4() {
        DeepBathing x = new DeepBathing();
        due("4 empty", 0, x.beach());
        Asked.put(x, BEACH);
        due("4 statements", 12, x.beach());
        x.hours(3);
        Asked.put(x, 0, 0, 0, 38);
        x.discover();
        x.send(0, 1, 1);
        x.image();
        Asked.put(x, "idea a depth 1");
        due("4 a fault", NONE, x.beach());
        due("4 refused", 1, x.status(1));
        due("4 ideas stay", 3, x.has(0));
        due("4 hour stays", 3, x.has(4));
        due("4 kept stays", 3, x.has(8));
        due("4 found stays", 1, x.has(9));
        due("4 acts stay", 2, x.has(10));
        due("4 plan stays", 1, x.plan(0, 0));
        due("4 the tape went", 20, x.feed(0, 0, 0, 0, 0));
        x.end(0);
        Asked.put(x, BEACH);
        due("4 again", 12, x.beach());
        due("4 hour", 0, x.has(4));
        due("4 knows", 0, x.has(7));
        due("4 kept", 0, x.has(8));
        due("4 found", 0, x.has(9));
        due("4 acts", 0, x.has(10));
        due("4 plan", 0, x.plan(0, 0));
        due("4 refused are counted on", 1, x.status(1));
        due("4 the image stays", 15, octets(x));
        due("4 none", 0, x.beach());
        due("4 no ideas", 0, x.has(0));
        due("4 tide", 9, x.has(5));
        seedStays();
    }

    /** The second squall of seed 1 is due in the same place, if a beach comes between. */
    private static void seedStays() {
        DeepBathing x = Asked.told("squall 19;");
        due("4 first draw is 18", 1, x.chance(1));
        Asked.put(x, "squall 26;");
        x.beach();
        due("4 third draw is 26", 0, x.chance(1));
        Asked.put(x, "squall 81;");
        x.beach();
        due("4 fourth draw is 80", 1, x.chance(1));
    }

    private static int octets(DeepBathing x) {
        int count = 0;
        while (count < 100 && x.octet(count) != NONE) {
            count++;
        }
        return count;
    }

    private static void promise5() {
        DeepBathing x = new DeepBathing();
        due("5 ahead", 0, x.fault(0));
        due("5 ahead", NONE, x.fault(1));
        due("5 another", NONE, x.fault(2));
        due("5 another", NONE, x.fault(-1));
        Asked.put(x, "idea a depth 77;");
        x.beach();
        due("5 beach", 2, x.fault(0));
        due("5 beach", 13, x.fault(1));
        Asked.ask(x, "first x");
        due("5 ask", 1, x.fault(0));
        due("5 ask", 6, x.fault(1));
        Asked.ask(x, "first all");
        due("5 without", 0, x.fault(0));
        due("5 without", NONE, x.fault(1));
    }

    private static void promise6() {
        DeepBathing x = Asked.told(BEACH);
        int[] first = {3, 2, 2, 3, 0, 5, 0, 0, 0, 0, 0};
        for (int what = 0; what < first.length; what++) {
            due("6 has " + what, first[what], x.has(what));
        }
        x.hours(2);
        x.hours(1);
        // tom a 36, b 36; annie a 17
        int[] then = {3, 2, 2, 3, 3, 5, 3, 89, 3, 0, 2};
        for (int what = 0; what < then.length; what++) {
            due("6 then has " + what, then[what], x.has(what));
        }
        due("6 others", NONE, x.has(11));
        due("6 others", NONE, x.has(-1));
        x = Asked.told("tide hour*3-3;");
        due("6 tide below 0", 0, x.has(5));
        x.hours(2);
        due("6 tide", 3, x.has(5));
        x.hours(3);
        due("6 tide above 9", 9, x.has(5));
    }

    private static void promise7() {
        DeepBathing x = Asked.told("idea abcxyz depth 0;idea m depth 0;bather zz lung 0 wits 0;");
        int[] letters = {1, 2, 3, 24, 25, 26};
        for (int k = 0; k < 6; k++) {
            due("7 letter " + k, letters[k], x.letter(0, 0, k));
            due("7 m " + k, k == 0 ? 13 : 0, x.letter(0, 1, k));
            due("7 zz " + k, k < 2 ? 26 : 0, x.letter(1, 0, k));
        }
        due("7 kind", NONE, x.letter(2, 0, 0));
        due("7 kind", NONE, x.letter(-1, 0, 0));
        due("7 which", NONE, x.letter(0, 2, 0));
        due("7 which", NONE, x.letter(1, 1, 0));
        due("7 which", NONE, x.letter(0, -1, 0));
        due("7 k", NONE, x.letter(0, 0, 6));
        due("7 k", NONE, x.letter(0, 0, -1));
    }

    private static void promise8() {
        DeepBathing x = Asked.told(BEACH + "idea d depth 0;need c for d;need a for d;");
        int[] depth = {2, 4, 9, 0};
        int[] needs = {0, 1, 2, 5};
        int[] roots = {0, 1, 3, 7};
        x.hours(3);
        int[] known = {2, 1, 0, 0};
        for (int i = 0; i < 4; i++) {
            due("8 depth " + i, depth[i], x.idea(i, 0));
            due("8 needs " + i, needs[i], x.idea(i, 1));
            due("8 roots " + i, roots[i], x.idea(i, 2));
            due("8 known " + i, known[i], x.idea(i, 3));
        }
        due("8 none", NONE, x.idea(4, 0));
        due("8 none", NONE, x.idea(-1, 0));
        due("8 others", NONE, x.idea(0, 4));
        due("8 others", NONE, x.idea(0, -1));
    }

    private static void promise9() {
        DeepBathing x = Asked.told(BEACH);
        due("9 lung", 3, x.bather(0, 0));
        due("9 wits", 4, x.bather(0, 1));
        due("9 nothing known", 0, x.bather(0, 2));
        due("9 ready for a", 1, x.bather(0, 3));
        x.hours(3);
        due("9 known", 3, x.bather(0, 2));
        due("9 c is too deep", 3, x.bather(0, 3));
        due("9 sum", 36 + 36, x.bather(0, 4));
        due("9 annie lung", 9, x.bather(1, 0));
        due("9 annie known", 1, x.bather(1, 2));
        due("9 annie ready", 3, x.bather(1, 3));
        due("9 annie sum", 17, x.bather(1, 4));
        due("9 none", NONE, x.bather(2, 0));
        due("9 none", NONE, x.bather(-1, 0));
        due("9 others", NONE, x.bather(0, 5));
        due("9 others", NONE, x.bather(0, -1));
        x = Asked.told("idea a depth 3;idea b depth 3;bather t lung 2 wits 1;tide 3;bears known<1 and depth=3 and lung+wits+tide+hour=6;");
        due("9 depth 3 at tide 3", 3, x.bather(0, 3));
        x.duck(0, 0);
        due("9 bears sees known", 0, x.bather(0, 3));
        x.undo();
        x.hours(1);
        due("9 bears sees the hour", 0, x.bather(0, 3));
    }

    private static void promise10() {
        DeepBathing x = Asked.told(BEACH);
        due("10 not", 0, x.knows(0, 0));
        x.hours(3);
        due("10 a", 36, x.knows(0, 0));
        due("10 b just ducked", 36, x.knows(0, 1));
        due("10 annie", 17, x.knows(1, 0));
        due("10 none", NONE, x.knows(2, 0));
        due("10 none", NONE, x.knows(0, 3));
        due("10 none", NONE, x.knows(-1, 0));
        due("10 none", NONE, x.knows(0, -1));
    }

    private static void promise11() {
        DeepBathing x = Asked.told(BEACH);
        due("11 a", 38, x.keeps(0, 0));
        due("11 not ready", 31, x.keeps(0, 2));
        due("11 annie", 11, x.keeps(1, 2));
        due("11 none", NONE, x.keeps(2, 0));
        due("11 none", NONE, x.keeps(0, 3));
        due("11 none", NONE, x.keeps(-1, 0));
        due("11 none", NONE, x.keeps(0, -1));
        due("11 below", 1, Asked.told("idea a depth 9;bather b lung 0 wits 0;keeps 0-5;").keeps(0, 0));
        due("11 above", 99, Asked.told("idea a depth 9;bather b lung 0 wits 0;keeps 9999;").keeps(0, 0));
        x = Asked.told("idea a depth 7;bather b lung 5 wits 3;tide 4;keeps lung*10+tide-depth+known*2+wits+hour;");
        due("11 all that it sees", 50 + 4 - 7 + 3, x.keeps(0, 0));
        x.hours(2);
        due("11 the hour", 52, x.keeps(0, 0));
        sums();
    }

    private static void sum(String sum, int want) {
        due("11 " + sum, want, Asked.told("idea a depth 9;bather b lung 0 wits 0;keeps 50+(" + sum + ");").keeps(0, 0) - 50);
    }

    private static void sums() {
        sum("2+3*4-1", 13);
        sum("(2+3)*4", 20);
        sum("20-5-5", 10);
        sum("20/5*2", 8);
        sum("7/2", 3);
        sum("(0-7)/2", -4);
        sum("7/(0-2)", -4);
        sum("(0-7)/(0-2)", 3);
        sum("(0-8)/2", -4);
        sum("7/0", 0);
        sum("min(3,0-4)", -4);
        sum("max(3,0-4)", 3);
        sum("9999*9999/9999", 100 - 51);
        sum("9999*9999/9999/50", 2);
        sum("0-9999*9999+9999*100-100", 0 - 50 + 1);
        sum("(9999*9999+9999-9999*99-9999)/10", 10);
        sum("((0-9999)*9999-9999+9999*99+9999)/1000", -1);
        sum("hour", 0);
        sum("1+1*(1+1*(1+1*(1+1*(1+1*(1+1)))))", 7);
        sum("max(0,1+1*max(0,1+1*max(0,1+1*max(0,1+1*max(0,1+1)))))", 6);
        StringBuilder longest = new StringBuilder("tide 803");
        for (int k = 0; k < 795; k++) {
            longest.append("-1");
        }
        due("11 as long as can be", 8, Asked.told(longest.append(";").toString()).has(5));
        due("11 six open", 1, Asked.told("idea a depth 0;bather b lung 0 wits 0;"
                + "bears 1=2 or all and[1=2 or all and[1=2 or all and[1=2 or all and 1+1*(1+1*(1+1))=4]]];").bather(0, 3));
    }

    private static void promise12() {
        DeepBathing x = Asked.told(BEACH);
        int[][] plan = {{0, 0}, {1, 0}, {0, 1}};
        for (int k = 0; k < 3; k++) {
            due("12 bather", plan[k][0], x.plan(k, 0));
            due("12 idea", plan[k][1], x.plan(k, 1));
        }
        due("12 none", NONE, x.plan(3, 0));
        due("12 none", NONE, x.plan(-1, 0));
        due("12 others", NONE, x.plan(0, 2));
        due("12 others", NONE, x.plan(0, -1));
    }

    private static void promise13() {
        DeepBathing x = Asked.told(BEACH);
        x.hours(3);
        x.duck(1, 0);
        int[][] kept = {{0, 0, 0, 38}, {1, 1, 0, 18}, {2, 0, 1, 36}};
        due("13 not by an act", 3, x.has(8));
        for (int k = 0; k < 3; k++) {
            for (int what = 0; what < 4; what++) {
                due("13 kept " + k + " " + what, kept[k][what], x.kept(k, what));
            }
        }
        due("13 none", NONE, x.kept(3, 0));
        due("13 none", NONE, x.kept(-1, 0));
        due("13 others", NONE, x.kept(0, 4));
        due("13 others", NONE, x.kept(0, -1));
        x = Asked.told(ONE);
        x.hours(40);
        due("13 forty", 0, x.kept(0, 0));
        x.hours(13);
        due("13 the last forty", 40, x.has(8));
        due("13 oldest", 13, x.kept(0, 0));
        due("13 latest", 52, x.kept(39, 0));
        due("13 latest", 20, x.kept(39, 3));
        due("13 no more", NONE, x.kept(40, 0));
        x.chance(1);
        due("13 by the seed too", 53, x.kept(39, 0));
    }

    private static void promise14() {
        DeepBathing x = Asked.told("tide hour/10;");
        due("14 now", 0, x.tide(0));
        due("14 later", 1, x.tide(10));
        due("14 at the most", 6, x.tide(60));
        due("14 more", NONE, x.tide(61));
        due("14 below", NONE, x.tide(-1));
        x.hours(100);
        due("14 above", 9, x.tide(0));
        due("14 below 0", 0, Asked.told("tide 0-5;").tide(7));
        for (int k = 0; k < 8; k++) {
            x.hours(100);
        }
        x.hours(90);
        due("14 to hour 999", 9, x.tide(9));
        due("14 beyond hour 999", NONE, x.tide(10));
    }

    private static void promise15() {
        DeepBathing x = Asked.told(BEACH);
        int[][] tom = {{0, 0}, {38, 0}, {37, 0}, {36, 36}, {38, 35}, {37, 34}};
        for (int n = 0; n < tom.length; n++) {
            due("15 a " + n, tom[n][0], x.later(0, 0, n));
            due("15 b " + n, tom[n][1], x.later(0, 1, n));
        }
        due("15 c", 0, x.later(0, 2, 60));
        due("15 annie", 17, x.later(1, 0, 3));
        due("15 nothing happened", 0, x.has(4));
        due("15 most", 36, x.later(0, 1, 60));
        due("15 more", NONE, x.later(0, 0, 61));
        due("15 below", NONE, x.later(0, 0, -1));
        due("15 none", NONE, x.later(2, 0, 1));
        due("15 none", NONE, x.later(-1, 0, 1));
        due("15 none", NONE, x.later(0, 3, 1));
        due("15 none", NONE, x.later(0, -1, 1));
        Asked.put(x, Asked.image(3, 230, 5, 0, 0, 0, 0, 0, 0, 0, 1, 0, 0, 1));
        due("15 on", true, x.on());
        due("15 to hour 999", 36, x.later(0, 1, 1));
        due("15 beyond", NONE, x.later(0, 0, 2));
        fading();
    }

    /** All fade at once, by what is so then, but for the one that was just DUCKED. */
    private static void fading() {
        DeepBathing x = Asked.told("idea a depth 0;idea b depth 0;idea c depth 0;need a for b;bather t lung 0 wits 5;"
                + "keeps 50;fades strength-known*10-rooted;plan t in a;plan t in b;plan t in c;");
        due("15 just ducked", 50, x.later(0, 0, 1));
        due("15 known with b", 50 - 21, x.later(0, 0, 2));
        due("15 known with c, below is 0", 0, x.later(0, 0, 3));
        due("15 rooted all at once", 50 - 31, x.later(0, 1, 3));
        x.hours(3);
        x.forget(0, 0);
        due("15 not rooted any more", 19, x.knows(0, 1));
        x.send(0, 0, 1);
        due("15 not ready, faded unrooted", 0, x.later(0, 1, 1));
        due("15 two known", 50 - 21, x.later(0, 2, 1));
        x = Asked.told("idea a depth 0;bather t lung 0 wits 0;keeps 1;fades strength*50+hour;plan t in a;");
        x.duck(0, 0);
        x.forget(0, 0);
        x.hours(1);
        due("15 kept by 1", 1, x.knows(0, 0));
        x = Asked.told("idea a depth 0;idea b depth 0;bather t lung 0 wits 0;keeps 1;fades strength*50+hour;plan t in a;plan t in b;");
        due("15 faded by the hour as it is", 51, x.later(0, 0, 2));
        due("15 even if he knew it better", 1, x.later(0, 0, 3));
        x.send(0, 0, 1);
        x.duck(0, 0);
        due("15 above is 99", 99, x.later(0, 0, 3));
    }

    private static void promise16() {
        DeepBathing x = Asked.told(BEACH);
        due("16 a", 1, x.learns(0, 0));
        due("16 annie a", 2, x.learns(1, 0));
        due("16 b", 3, x.learns(0, 1));
        due("16 never", NONE, x.learns(0, 2));
        due("16 never", NONE, x.learns(1, 1));
        due("16 none", NONE, x.learns(2, 0));
        due("16 none", NONE, x.learns(0, 3));
        due("16 none", NONE, x.learns(-1, 0));
        due("16 none", NONE, x.learns(0, -1));
        x.hours(1);
        due("16 now", 0, x.learns(0, 0));
        due("16 sixty", 60, Asked.told(ONE + "bears hour>58;").learns(0, 0));
        due("16 sixty-one", NONE, Asked.told(ONE + "bears hour>59;").learns(0, 0));
        x = Asked.told(ONE + "bears hour>997;");
        for (int k = 0; k < 9; k++) {
            x.hours(100);
        }
        x.hours(50);
        due("16 at hour 998", 49, x.learns(0, 0));
        x = Asked.told(ONE + "bears hour>998;");
        for (int k = 0; k < 9; k++) {
            x.hours(100);
        }
        x.hours(50);
        due("16 hour 999 does not pass", NONE, x.learns(0, 0));
    }

    private static void promise17() {
        DeepBathing x = Asked.told(BEACH);
        due("17 not known", NONE, x.lasts(0, 0));
        x.hours(1);
        due("17 as if without a plan", 37, x.lasts(0, 0));
        due("17 none", NONE, x.lasts(2, 0));
        due("17 none", NONE, x.lasts(0, 3));
        due("17 none", NONE, x.lasts(-1, 0));
        due("17 none", NONE, x.lasts(0, -1));
        x = Asked.told(ONE + "keeps 61;");
        x.duck(0, 0);
        due("17 sixty", 60, x.lasts(0, 0));
        x = Asked.told(ONE + "keeps 60;");
        x.duck(0, 0);
        due("17 fifty-nine", 59, x.lasts(0, 0));
        x = Asked.told(ONE + "fades strength;");
        x.duck(0, 0);
        due("17 for ever", 60, x.lasts(0, 0));
        x = Asked.told(ONE + "fades 0;");
        x.duck(0, 0);
        due("17 no hour", 0, x.lasts(0, 0));
        Asked.put(x, Asked.image(3, 227, 50, 0, 0));
        x.on();
        due("17 known at hour 995", 50, x.knows(0, 0));
        Asked.put(x, "");
        x = Asked.told(ONE);
        Asked.put(x, Asked.image(3, 227, 50, 0, 0));
        x.on();
        due("17 not beyond hour 999", 4, x.lasts(0, 0));
        x = Asked.told("idea a depth 0;bather b lung 0 wits 0;fades strength-hour;");
        x.duck(0, 0);
        due("17 by the hours: 20, 19, 17, 14, 10, 5", 6, x.lasts(0, 0));
        x.hours(2);
        x.duck(0, 0);
        due("17 by the hours: 18, 15, 11, 6", 4, x.lasts(0, 0));
    }

    private static void promise18() {
        DeepBathing x = Asked.told(BEACH);
        course(x, 0, 0, 0);
        course(x, 0, 1, 0, 1);
        due("18 without one", NONE, x.course(0, 2, NONE));
        due("18 without one", NONE, x.course(0, 2, 0));
        due("18 below", NONE, x.course(0, 0, -2));
        due("18 none", NONE, x.course(2, 0, NONE));
        due("18 none", NONE, x.course(0, 3, NONE));
        due("18 none", NONE, x.course(-1, 0, NONE));
        due("18 none", NONE, x.course(0, -1, NONE));
        x.duck(0, 0);
        course(x, 0, 0);
        course(x, 0, 1, 1);
        String chain = "";
        for (int k = 0; k < 5; k++) {
            chain += "idea i" + (char) ('a' + k) + " depth 0;";
            chain += k > 0 ? "need i" + (char) ('a' + k - 1) + " for i" + (char) ('a' + k) + ";" : "";
        }
        x = Asked.told(chain + "bather b lung 0 wits 0;");
        course(x, 0, 3, 0, 1, 2, 3);
        due("18 five hours", NONE, x.course(0, 4, NONE));
        x.hours(3);
        course(x, 0, 3, 0, 1, 2, 3);
        Asked.put(x, Asked.image(3, 228, 0, 0, 0, 0, 0));
        x.on();
        course(x, 0, 2, 0, 1, 2);
        due("18 not beyond hour 999", NONE, x.course(0, 3, NONE));
        x = Asked.told(ONE + "idea c depth 0;bears hour>1;");
        course(x, 0, 0, NONE, NONE, 0);
        due("18 the plan is not followed", 2, x.course(0, 1, 2) + 1);
        x = Asked.told("idea a depth 0;idea b depth 0;idea c depth 0;bather t lung 0 wits 0;bears depth<1 and known>hour-1 or depth<1 and known>0;");
        course(x, 0, 2, 2);
        x = Asked.told("idea a depth 1;idea b depth 1;idea c depth 0;bather t lung 0 wits 0;bears depth=1 or known>0;fades strength-19;");
        course(x, 0, 2, 0, 2);
        x = Asked.told("idea a depth 0;idea b depth 0;bather t lung 0 wits 0;need a for b;fades 0;");
        due("18 faded ahead of b", 2, x.course(0, 1, NONE));
        x = Asked.told("idea a depth 0;idea b depth 0;idea c depth 0;bather t lung 0 wits 0;need a for c;need b for c;fades 0;");
        due("18 one of two is always gone", NONE, x.course(0, 2, NONE));
    }

    private static void course(DeepBathing x, int bather, int idea, int... ideas) {
        due("18 course for " + idea, ideas.length, x.course(bather, idea, NONE));
        for (int k = 0; k < ideas.length; k++) {
            due("18 course for " + idea + " at " + k, ideas[k], x.course(bather, idea, k));
        }
        due("18 course for " + idea + " ends", NONE, x.course(bather, idea, ideas.length));
    }

    private static void promise19() {
        DeepBathing x = Asked.told(BEACH);
        change(x, 1, NONE, NONE, 38);
        change(x, 2, 1, 2, 37 + 36);
        change(x, 3, NONE, NONE, 36 + 36 + 17);
        // b ahead of a leaves tom without b
        x.send(0, 0, 1);
        x.send(2, 0, 0);
        change(x, 3, 0, 2, 36 + 36 + 17);
        change(x, 1, 0, 2, 38);
        change(x, 2, 0, 2, 37 + 18);
        due("19 the plan stays", 1, x.plan(0, 1));
        due("19 the hour stays", 0, x.has(4));
        for (int n : new int[] {0, -1, 31}) {
            due("19 n " + n, NONE, x.change(n, 2));
        }
        due("19 others", NONE, x.change(3, 3));
        due("19 others", NONE, x.change(3, -1));
        due("19 thirty", 1, x.change(30, 2) > 0 ? 1 : 0);
        x = Asked.told("idea a depth 9;idea b depth 0;bather t lung 0 wits 0;plan t in a;plan t in a;plan t in b;plan t in b;tide 8;");
        change(x, 1, 0, 2, 20);
        change(x, 2, 1, 2, 20);
        change(x, 3, NONE, NONE, 20);
        change(x, 30, 1, 2, 20);
        x = Asked.told(BEACH);
        x.hours(1);
        x.forget(0, 0);
        change(x, 1, 0, 1, 38);
        x = Asked.told("idea a depth 0;bather t lung 0 wits 0;plan t in a;");
        change(x, 4, NONE, NONE, 20);
        Asked.put(x, Asked.image(3, 226, 50, 0, 0));
        x.on();
        due("19 to hour 999", 20, x.change(5, 2));
        due("19 beyond", NONE, x.change(6, 2));
        due("19 beyond", NONE, x.change(6, 0));
        x = new DeepBathing();
        change(x, 5, NONE, NONE, 0);
    }

    private static void change(DeepBathing x, int n, int less, int other, int sum) {
        due("19 less, " + n, less, x.change(n, 0));
        due("19 other, " + n, other, x.change(n, 1));
        due("19 sum, " + n, sum, x.change(n, 2));
    }

    private static void promise20() {
        DeepBathing x = Asked.told(BEACH);
        match(x, 38, 0, NONE);
        x.hours(3);
        // tom a 38, b 36; annie a 18, b 16: alike by both ways
        match(x, 54, 0, 1);
        due("20 none", NONE, x.match(2));
        due("20 none", NONE, x.match(-2));
        x = Asked.told("idea a depth 0;idea b depth 0;bather t lung 0 wits 0;bather u lung 0 wits 0;bather v lung 0 wits 0;");
        match(x, 40, NONE, 0, 1);
        x = Asked.told("idea a depth 0;idea b depth 0;bather t lung 0 wits 0;bather u lung 0 wits 0;keeps 10+depth;");
        match(x, 20, 0, 1);
        x = Asked.told("idea a depth 0;idea b depth 1;bather t lung 0 wits 9;bather u lung 0 wits 0;bears wits=9 or depth=0;keeps 10+depth*wits;");
        match(x, 29, 1, 0);
        x = Asked.told("idea a depth 0;bather t lung 0 wits 1;bather u lung 0 wits 2;");
        match(x, 30, NONE, 0);
        due("20 nobody", 0, new DeepBathing().match(NONE));
        due("20 nobody", NONE, new DeepBathing().match(0));
    }

    private static void match(DeepBathing x, int sum, int... ideas) {
        due("20 sum", sum, x.match(NONE));
        for (int b = 0; b < ideas.length; b++) {
            due("20 of " + b, ideas[b], x.match(b));
        }
    }

    private static void promise21() {
        DeepBathing x = Asked.told(BEACH);
        // a is 2 deep: 30 of 100 have a tide of 0 or 1 in two of ten
        due("21 a", 1000 - 30 * 2, x.odds(0, 0));
        due("21 not planned", 0, x.odds(1, 0));
        due("21 none", NONE, x.odds(2, 0));
        due("21 none", NONE, x.odds(0, 3));
        due("21 none", NONE, x.odds(-1, 0));
        due("21 none", NONE, x.odds(0, -1));
        x.hours(2);
        due("21 b", 1000 - 30 * 4, x.odds(0, 1));
        due("21 known", 1000, x.odds(0, 0));
        x = Asked.told("idea a depth 7;bather b lung 0 wits 0;plan b in a;tide 5;squall 40;");
        due("21 by squalls alone", 40 * 3, x.odds(0, 0));
        x = Asked.told("idea a depth 7;bather b lung 0 wits 0;plan b in a;tide 5;squall 100;");
        due("21 always squalls", 300, x.odds(0, 0));
        x = Asked.told("idea a depth 7;bather b lung 0 wits 0;plan b in a;tide 7;");
        due("21 never", 1000, x.odds(0, 0));
        Asked.put(x, Asked.image(3, 230, 0, 0, 0));
        x.on();
        due("21 at 998", 1000, x.odds(0, 0));
        x.hours(1);
        due("21 at 999", NONE, x.odds(0, 0));
    }

    private static void promise22() {
        DeepBathing x = Asked.told(BEACH);
        due("22 empty", NONE, x.discover());
        int[] full = new int[64];
        Asked.put(x, full);
        due("22 sixteen", 16, x.discover());
        due("22 found", 16, x.has(9));
        due("22 the tape went", false, x.end(1));
        Asked.put(x, new int[68]);
        due("22 seventeen", NONE, x.discover());
        due("22 the tape went", false, x.end(1));
        int[][] none = {{31, 0, 0, 0}, {0, 2, 0, 0}, {0, 0, 3, 0}, {0, 0, 0, 100}, {0, 0, 0}, {0, 0, 0, 0, 0}, {0, 0, 0, 0, 255, 0, 0, 0}};
        for (int[] row : none) {
            Asked.put(x, row);
            due("22 none such", NONE, x.discover());
        }
        due("22 refused", 9, x.status(1));
        due("22 stays", 16, x.has(9));
        Asked.put(x, 30, 1, 2, 99, 0, 0, 0, 0);
        due("22 two", 2, x.discover());
        due("22 told anew", 2, x.has(9));
        due("22 no act", 0, x.has(10));
    }

    private static void promise23() {
        DeepBathing x = Asked.told(BEACH);
        due("23 nothing found", 1023, x.wits(0));
        due("23 none", NONE, x.wits(2));
        due("23 none", NONE, x.wits(-1));
        found(x, 1, 0, 0, 38);
        due("23 as told", 16, x.wits(0));
        due("23 another", 1023, x.wits(1));
        found(x, 1, 0, 0, 48);
        due("23 quicker", 64, x.wits(0));
        due("23 of another it is not so", 0, x.wits(1));
        found(x, 1, 0, 0, 37);
        due("23 by none", 0, x.wits(0));
        found(x, 0, 0, 0, 0);
        due("23 by all", 1023, x.wits(0));
        found(x, 1, 0, 0, 38, 2, 0, 0, 37);
        due("23 both", 16, x.wits(0));
        found(x, 1, 0, 0, 38, 2, 0, 0, 38);
        due("23 not both", 0, x.wits(0));
        found(x, 2, 1, 0, 33);
        due("23 annie", 8, x.wits(1));
        x = Asked.told("idea a depth 0;bather b lung 0 wits 7;plan b in a;keeps wits/4*10+1;");
        found(x, 1, 0, 0, 11);
        due("23 four to seven", 0xf0, x.wits(0));
        x.hours(1);
        found(x, 0, 0, 0, 11);
        due("23 now", 1023, x.wits(0));
        Asked.put(x, Asked.image(3, 229, 11, 0, 0));
        x.on();
        due("23 found stays", 1, x.has(9));
        due("23 now it is", 1023, x.wits(0));
        found(x, 2, 0, 0, 21);
        due("23 to hour 999", 0x300, x.wits(0));
        found(x, 3, 0, 0, 21);
        due("23 beyond", 0, x.wits(0));
    }

    private static void found(DeepBathing x, int... rows) {
        Asked.put(x, rows);
        due("22 found", rows.length / 4, x.discover());
    }

    private static void promise24() {
        DeepBathing x = Asked.told(BEACH);
        telling(x, 0, 1, 0, 1);
        telling(x, 1, 2, 0, 1);
        due("24 others", NONE, x.tells(0, 3));
        due("24 others", NONE, x.tells(0, -1));
        due("24 none", NONE, x.tells(2, 0));
        due("24 none", NONE, x.tells(-1, 0));
        found(x, 1, 0, 0, 38);
        telling(x, 0, 1, 0, 1);
        found(x, 1, 0, 0, 37);
        telling(x, 0, NONE, NONE, NONE);
        x = Asked.told("idea a depth 0;idea b depth 0;bather t lung 0 wits 7;plan t in a;plan t in b;keeps wits/(4-depth)+1-1/(1+hour);");
        // behind 1 hour a: 1 for wits 0..7, 2 for 8, 9; behind 2 b: 1, 2, 3 for 4, 4, 2
        telling(x, 0, 2, 1, 4);
        found(x, 1, 0, 0, 2);
        telling(x, 0, 1, 0, 2);
        x = Asked.told("idea a depth 0;bather t lung 0 wits 7;");
        telling(x, 0, 1, 0, 10);
        x = Asked.told(ONE + "keeps wits;");
        telling(x, 0, 1, 0, 2);
        x = Asked.told(ONE + "keeps wits+1;");
        found(x, 1, 0, 0, 1);
        telling(x, 0, 1, 0, 1);
        x = Asked.told(ONE + "bears hour=29;fades strength;");
        telling(x, 0, 30, 0, 1);
        x = Asked.told(ONE + "bears hour=30;fades strength;");
        telling(x, 0, 1, 0, 10);
        x = Asked.told("bather t lung 0 wits 7;");
        telling(x, 0, NONE, NONE, NONE);
        x = Asked.told(ONE + "bears hour=998;fades strength;");
        Asked.put(x, Asked.image(3, 229, 0, 0, 0));
        x.on();
        telling(x, 0, 2, 0, 1);
        x.hours(1);
        telling(x, 0, 1, 0, 1);
        x.hours(1);
        telling(x, 0, NONE, NONE, NONE);
    }

    private static void telling(DeepBathing x, int bather, int hours, int idea, int left) {
        due("24 hours", hours, x.tells(bather, 0));
        due("24 idea", idea, x.tells(bather, 1));
        due("24 left", left, x.tells(bather, 2));
    }

    private static void promise25() {
        DeepBathing x = Asked.told(BEACH);
        due("25 a", 38, x.duck(0, 0));
        due("25 known", 38, x.knows(0, 0));
        due("25 an act", 1, x.has(10));
        due("25 not kept", 0, x.has(8));
        due("25 needs", NONE, x.duck(1, 1));
        due("25 too deep", NONE, x.duck(0, 2));
        due("25 none", NONE, x.duck(2, 0));
        due("25 none", NONE, x.duck(0, 3));
        due("25 none", NONE, x.duck(-1, 0));
        due("25 none", NONE, x.duck(0, -1));
        due("25 refused", 6, x.status(2));
        due("25 no acts", 1, x.has(10));
        x.hours(1);
        due("25 hour 0 ducks anew", 38, x.knows(0, 0));
        x.duck(1, 0);
        x.hours(2);
        due("25 fades behind an act", 36, x.knows(0, 0));
        x = Asked.told("idea a depth 0;bather b lung 0 wits 0;keeps 50-hour*20;");
        due("25 once", 50, x.duck(0, 0));
        x.hours(1);
        due("25 even if he knew it better", 30, x.duck(0, 0));
        x = Asked.told("idea a depth 0;bather b lung 0 wits 0;bears known=0;keeps 50-known;");
        due("25 known ahead of it", 50, x.duck(0, 0));
        due("25 the test of bears", NONE, x.duck(0, 0));
        x = Asked.told("idea a depth 9;bather b lung 0 wits 0;");
        due("25 no deeper than the tide", 11, x.duck(0, 0));
    }

    private static void promise26() {
        DeepBathing x = Asked.told(BEACH);
        due("26 not known", false, x.forget(0, 0));
        x.hours(1);
        due("26 known", true, x.forget(0, 0));
        due("26 gone", 0, x.knows(0, 0));
        due("26 again", false, x.forget(0, 0));
        due("26 none", false, x.forget(2, 0));
        due("26 none", false, x.forget(0, 3));
        due("26 none", false, x.forget(-1, 0));
        due("26 none", false, x.forget(0, -1));
        due("26 refused", 6, x.status(2));
        due("26 acts", 2, x.has(10));
        x.undo();
        due("26 undone", 38, x.knows(0, 0));
    }

    private static void promise27() {
        DeepBathing x = Asked.told(BEACH);
        due("27 it is that", false, x.send(0, 0, 0));
        due("27 no row", false, x.send(3, 0, 0));
        due("27 no row", false, x.send(3, 1, 1));
        due("27 no row", false, x.send(-1, 0, 0));
        due("27 no bather", false, x.send(0, 2, 0));
        due("27 no bather", false, x.send(0, -1, 0));
        due("27 no idea", false, x.send(0, 0, 3));
        due("27 no idea", false, x.send(0, 0, -1));
        due("27 refused", 8, x.status(2));
        due("27 no act", 0, x.has(10));
        due("27 another idea", true, x.send(0, 0, 2));
        due("27 another bather", true, x.send(2, 1, 1));
        due("27 told", 2, x.plan(0, 1));
        due("27 told", 1, x.plan(2, 0));
        due("27 acts", 2, x.has(10));
        due("27 c is too deep", 0, x.hours(1));
        x.undo();
        x.undo();
        x.undo();
        due("27 undone", 0, x.plan(0, 1));
        due("27 undone", 0, x.plan(2, 0));
    }

    private static void promise28() {
        DeepBathing x = Asked.told(BEACH);
        due("28 below", NONE, x.hours(0));
        due("28 below", NONE, x.hours(-1));
        due("28 above", NONE, x.hours(101));
        due("28 refused", 3, x.status(3));
        due("28 no act", 0, x.has(10));
        due("28 three", 3, x.hours(3));
        due("28 the row by its number", 36, x.knows(0, 1));
        due("28 a hundred", 100, x.hours(100));
        due("28 hour", 103, x.has(4));
        due("28 two acts", 2, x.has(10));
        x.send(0, 0, 2);
        due("28 some", 2, x.hours(3));
        for (int k = 0; k < 8; k++) {
            x.hours(100);
        }
        due("28 hour", 906, x.has(4));
        due("28 beyond", NONE, x.hours(94));
        due("28 to 999, with a forgotten", 31, x.hours(93));
        due("28 the last", 999, x.has(4));
        due("28 no more", NONE, x.hours(1));
        due("28 refused", 5, x.status(3));
        x = Asked.told("idea a depth 5;bather b lung 0 wits 0;plan b in a;tide hour;");
        due("28 by the tide of each hour", 5, x.hours(10));
        due("28 without a plan", 0, Asked.told("idea a depth 5;bather b lung 0 wits 0;").hours(5));
    }

    private static void promise29() {
        DeepBathing x = Asked.told("idea a depth 8;bather b lung 0 wits 0;plan b in a;tide 0;squall 19;keeps tide*10;");
        due("29 below", NONE, x.chance(0));
        due("29 below", NONE, x.chance(-1));
        due("29 above", NONE, x.chance(101));
        due("29 refused", 3, x.status(3));
        due("29 draws 18: a squall", 1, x.chance(1));
        due("29 draws 9: its tide", 90, x.knows(0, 0));
        due("29 kept", 1, x.has(8));
        due("29 kept", 90, x.kept(0, 3));
        due("29 one act", 1, x.has(10));
        due("29 the tide now is no squall", 0, x.has(5));
        due("29 draws 26, 80, 16 and 4, 68", 1, x.chance(4));
        due("29 hour", 5, x.has(4));
        due("29 one act more", 2, x.has(10));
        due("29 faded", 86, x.knows(0, 0));
        x = Asked.told("squall 18;");
        due("29 18 is not below 18", 0, x.chance(1));
        x = Asked.told("");
        x.chance(1);
        Asked.put(x, "squall 100;");
        x.beach();
        due("29 without squalls it draws too", 2, x.chance(2));
        x = Asked.told(ONE + "squall 100;");
        due("29 all", 100, x.chance(100));
        for (int k = 0; k < 8; k++) {
            x.chance(100);
        }
        due("29 beyond", NONE, x.chance(100));
        due("29 to 999", 99, x.chance(99));
        due("29 refused", 1, x.status(3));
    }

    private static void promise30() {
        DeepBathing x = Asked.told(BEACH);
        due("30 none", false, x.undo());
        due("30 refused", 1, x.status(4));
        x.hours(3);
        x.duck(1, 1);
        x.forget(0, 0);
        x.send(0, 1, 1);
        x.chance(5);
        due("30 acts", 5, x.has(10));
        due("30 chance", true, x.undo());
        due("30 hour", 3, x.has(4));
        due("30 kept", 3, x.has(8));
        due("30 send", true, x.undo());
        due("30 plan", 0, x.plan(0, 0));
        due("30 forget", true, x.undo());
        due("30 known", 36, x.knows(0, 0));
        due("30 duck", true, x.undo());
        due("30 not known", 0, x.knows(1, 1));
        due("30 hours", true, x.undo());
        due("30 hour", 0, x.has(4));
        due("30 kept", 0, x.has(8));
        due("30 strengths", 0, x.has(7));
        due("30 no more", false, x.undo());
        x = Asked.told(ONE);
        for (int k = 0; k < 23; k++) {
            x.hours(2);
        }
        due("30 twenty", 20, x.has(10));
        for (int k = 0; k < 20; k++) {
            due("30 undone", true, x.undo());
        }
        due("30 no more", false, x.undo());
        due("30 hour", 6, x.has(4));
        x.hours(60);
        x.hours(7);
        x.undo();
        due("30 kept comes back", 26, x.kept(0, 0));
        x = Asked.told("squall 26;");
        x.chance(1);
        x.undo();
        due("30 the seed stays: 26", 0, x.chance(1));
    }

    private static void promise31() {
        DeepBathing x = Asked.told("squall 19;");
        due("31 below", false, x.seed(-1));
        due("31 below", false, x.seed(Integer.MIN_VALUE));
        due("31 refused", 2, x.status(5));
        due("31 it is 1 at first", 1, x.chance(1));
        due("31 it is 26 now", 0, x.chance(1));
        due("31 one", true, x.seed(1));
        due("31 no act", 2, x.has(10));
        due("31 18 again", 1, x.chance(1));
        due("31 zero", true, x.seed(0));
        // 12345 / 64 = 192: 92
        due("31 92", 0, x.chance(1));
        due("31 most", true, x.seed(Integer.MAX_VALUE));
        // 1103515245 (2^31 - 1) + 12345 is 1043980748 of 2^31: 16312199 in 64: 99
        due("31 99", 0, x.chance(1));
        Asked.put(x, "squall 100;");
        x.beach();
        x.seed(Integer.MAX_VALUE);
        due("31 99 is below 100", 1, x.chance(1));
    }

    private static void promise32() {
        DeepBathing x = Asked.told(BEACH);
        x.hours(3);
        ask(x, "first all", 0);
        ask(x, "last all", 1);
        ask(x, "first wits=0", 1);
        ask(x, "last wits=4", 0);
        ask(x, "first wits=5", NONE);
        ask(x, "last not all", NONE);
        ask(x, "often all", 2);
        ask(x, "often lung>3", 1);
        ask(x, "often not lung>3 or not lung<9", 2);
        ask(x, "often lung>3 and number=1 or wits=7", 1);
        ask(x, "often [wits=7 or all] and number=1", 1);
        ask(x, "often not [number=0 and all]", 1);
        ask(x, "total known", 3);
        ask(x, "total number", 1);
        ask(x, "total lung", 12);
        ask(x, "total hour", 6);
        ask(x, "total tide", 10);
        ask(x, "total knows 0", 36 + 17);
        ask(x, "total knows 1", 36);
        ask(x, "total knows 2", 0);
        ask(x, "total knows 3", 0);
        ask(x, "total knows (0-1)", 0);
        ask(x, "total knows 9999", 0);
        ask(x, "total knows 0*2", 106);
        ask(x, "total knows number", 36);
        ask(x, "total ready 0", 2);
        ask(x, "total ready 1", 2);
        ask(x, "total ready 2", 0);
        ask(x, "total ready 8+ready (0-1)+ready 40", 0);
        ask(x, "total ready knows 1", 1);
        ask(x, "most lung", 9);
        ask(x, "least lung", 3);
        ask(x, "most 0-lung", -3);
        ask(x, "least 0-lung", -9);
        ask(x, "most 9999*9999", 1000000);
        ask(x, "least 0-9999*9999", -1000000);
        ask(x, "total 9999*9999", 2000000);
        ask(x, "total 0-9999*9999", -2000000);
        ask(x, "total 7/2", 6);
        due("32 a fault", DeepBathing.NOTHING, Asked.ask(x, "total x"));
        due("32 the tape went", false, x.end(1));
        x = new DeepBathing();
        ask(x, "most 5", 0);
        ask(x, "least 5", 0);
        ask(x, "total 5", 0);
        ask(x, "often all", 0);
        ask(x, "last all", NONE);
        x = Asked.told("idea a depth 3;bather t lung 0 wits 0;tide hour;bears known=0;");
        ask(x, "total ready 0", 0);
        x.hours(3);
        ask(x, "total ready 0", 1);
        x.duck(0, 0);
        ask(x, "total ready 0", 0);
    }

    private static void ask(DeepBathing x, String question, long want) {
        due("32 " + question, want, Asked.ask(x, question));
        due("32 fault of " + question, 0, x.fault(0));
    }

    private static void promise33() {
        DeepBathing x = Asked.told(BEACH);
        x.hours(100);
        x.hours(100);
        x.hours(100);
        // hour 300: tom a 36, b 36, annie a 17 (hours 297, 299, 298)
        due("33 bytes", 15, x.image());
        int[] want = Asked.image(1, 44, 36, 36, 0, 17, 0, 0, 0, 0, 1, 0, 0, 1);
        for (int k = 0; k < want.length; k++) {
            due("33 octet " + k, want[k], x.octet(k));
        }
        x = new DeepBathing();
        due("33 none", 3, x.image());
        due("33 check", 143, x.octet(2));
    }

    private static void promise34() {
        DeepBathing x = Asked.told(ONE);
        due("34 none yet", NONE, x.octet(0));
        due("34 image", 6, x.image());
        x.hours(1);
        due("34 of the latest", 0, x.octet(1));
        due("34 below", NONE, x.octet(-1));
        due("34 beyond", NONE, x.octet(6));
        x.image();
        due("34 anew", 1, x.octet(1));
        due("34 strength", 20, x.octet(2));
        due("34 check", Asked.image(0, 1, 20, 0, 0)[5], x.octet(5));
        x = Asked.told("idea a depth 0;bather b lung 0 wits 0;keeps 99;");
        x.duck(0, 0);
        x.image();
        due("34 99", 99, x.octet(2));
    }

    private static void promise35() {
        DeepBathing x = Asked.told(BEACH);
        x.hours(3);
        Asked.put(x, 0, 0, 0, 36);
        x.discover();
        int[] good = {3, 231, 99, 0, 1, 0, 50, 0, 1, 2, 0, 0, 1, 1};
        Asked.put(x, Asked.image(good));
        due("35 on", true, x.on());
        due("35 hour", 999, x.has(4));
        due("35 known", 99, x.knows(0, 0));
        due("35 known", 1, x.knows(0, 2));
        due("35 known", 50, x.knows(1, 1));
        due("35 plan", 1, x.plan(0, 0));
        due("35 plan", 2, x.plan(0, 1));
        due("35 plan", 1, x.plan(2, 1));
        due("35 nothing is kept", 0, x.has(8));
        due("35 nothing can be undone", 0, x.has(10));
        due("35 found stays", 1, x.has(9));
        due("35 the tape went", false, x.end(1));
        int[][] spoilt = {{0, 4}, {1, 232}, {2, 100}, {7, 100}, {8, 2}, {9, 3}, {13, 3}, {12, 255}};
        for (int[] spot : spoilt) {
            int[] bad = good.clone();
            bad[spot[0]] = spot[1];
            Asked.put(x, Asked.image(bad));
            due("35 none, at " + spot[0], false, x.on());
        }
        int[] check = Asked.image(good);
        check[14] ^= 1;
        Asked.put(x, check);
        due("35 check", false, x.on());
        Asked.put(x, java.util.Arrays.copyOf(Asked.image(good), 16));
        due("35 too long", false, x.on());
        Asked.put(x, java.util.Arrays.copyOf(Asked.image(good), 14));
        due("35 too short", false, x.on());
        due("35 empty", false, x.on());
        due("35 refused", 12, x.status(5));
        due("35 all stays", 99, x.knows(0, 0));
        due("35 all stays", 2, x.plan(0, 1));
    }

    private static void promise36() {
        DeepBathing x = Asked.told(BEACH);
        x.end(-1);
        due("36 end", 1, x.status(0));
        Asked.put(x, "x");
        x.beach();
        x.discover();
        due("36 beach, discover", 2, x.status(1));
        x.duck(9, 9);
        x.forget(9, 9);
        x.send(9, 9, 9);
        due("36 duck, forget, send", 3, x.status(2));
        x.hours(0);
        x.chance(0);
        x.hours(999);
        x.chance(101);
        due("36 hours, chance", 4, x.status(3));
        for (int k = 0; k < 5; k++) {
            x.undo();
        }
        due("36 undo", 5, x.status(4));
        x.seed(-5);
        x.on();
        due("36 seed, on", 2, x.status(5));
        x.knows(9, 9);
        x.later(9, 9, 9);
        Asked.ask(x, "x");
        x.tide(-1);
        x.octet(-1);
        int[] all = {1, 2, 3, 4, 5, 2};
        for (int what = 0; what < 6; what++) {
            due("36 nothing else is counted " + what, all[what], x.status(what));
        }
        due("36 others", NONE, x.status(6));
        due("36 others", NONE, x.status(-1));
    }

    /** As much of all as there can be. */
    private static void full() {
        StringBuilder s = new StringBuilder();
        for (int k = 0; k < 8; k++) {
            s.append("idea idea").append((char) ('a' + k)).append(" depth ").append(k).append(';');
        }
        for (int k = 0; k < 6; k++) {
            s.append("bather b").append((char) ('a' + k)).append(" lung ").append(k).append(" wits 0;");
        }
        for (int k = 0; k < 16; k++) {
            s.append("plan b").append((char) ('a' + k % 6)).append(" in idea").append((char) ('a' + k % 8)).append(';');
        }
        s.append("squall 50;");
        DeepBathing x = Asked.told(s.toString());
        due("full rows", 16, x.has(3));
        match(x, 20 + 19 + 18 + 17 + 16 + 15, 0, 1, 2, 3, 4, 5);
        change(x, 1, NONE, NONE, 20);
        course(x, 5, 7, 7);
        due("full learns", 16, x.learns(3, 7));
        due("full odds", 1000, x.odds(0, 0));
        due("full odds of squalls", 500 + 50 * 9, x.send(0, 0, 1) ? x.odds(0, 1) : 0);
        x.undo();
        due("full wits", 1023, x.wits(5));
        telling(x, 5, 6, 5, 1);
        due("full hours", 16, x.hours(16));
        due("full kept", 16, x.has(8));
        due("full known", 16, x.has(6));
        due("full sums", x.has(7), Asked.ask(x, "total knows 0+knows 1+knows 2+knows 3+knows 4+knows 5+knows 6+knows 7"));
        due("full bits", 1 | 1 << 4 | 1 << 6, x.bather(0, 2));
        due("full ready", 255, x.bather(5, 3));
        due("full knowers", 2, x.idea(7, 3));
        ask(x, "total known", 16);
        ask(x, "total ready 7", 6);
        ask(x, "total knows 7", 13 + 13 - 8);
        ask(x, "last knows 7>0", 3);
        due("full image", 83, x.image());
        int[] octets = new int[83];
        for (int k = 0; k < 83; k++) {
            octets[k] = x.octet(k);
        }
        due("full, the last row", 3, octets[80]);
        due("full, the last row", 7, octets[81]);
        due("full lasts", 12, x.lasts(3, 7));
        x.hours(100);
        Asked.put(x, octets);
        due("full on", true, x.on());
        due("full hour", 16, x.has(4));
        due("full known again", 16, x.has(6));
    }

    public static void main(String[] args) {
        full();
        promise1();
        promise2();
        promise3();
        promise4();
        promise5();
        promise6();
        promise7();
        promise8();
        promise9();
        promise10();
        promise11();
        promise12();
        promise13();
        promise14();
        promise15();
        promise16();
        promise17();
        promise18();
        promise19();
        promise20();
        promise21();
        promise22();
        promise23();
        promise24();
        promise25();
        promise26();
        promise27();
        promise28();
        promise29();
        promise30();
        promise31();
        promise32();
        promise33();
        promise34();
        promise35();
        promise36();
        Asked.end();
    }
}
