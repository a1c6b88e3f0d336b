/** Terms II: each sentence that names a boundary of TIDE, READY, DUCKED, HOURS, DRAWS, KEPT, ACTS. */
public final class EdgesOfHoursTest {
    private static final int NONE = DeepBathing.NONE;
    private static final String ONE = "idea a depth 0;bather b lung 0 wits 0;";
    private static final String PLANNED = ONE + "plan b in a;";

    private static int seed;

    private static void sentence(String words) {
        Asked.sentence(words);
    }

    private static void due(String what, long want, long got) {
        Asked.due(what, want, got);
    }

    private static void due(String what, boolean want, boolean got) {
        Asked.due(what, want, got);
    }

    private static int draw(int m) {
        seed = (int) ((1103515245L * seed + 12345L) % (1L << 31));
        return seed / 64 % m;
    }

    /** The first seed by which a first DRAW of 100 and a DRAW of 10 behind it are such. */
    private static int seedOf(int hundred, int ten) {
        for (int s = 0; s < 1000000; s++) {
            seed = s;
            if (draw(100) == hundred && draw(10) == ten) {
                return s;
            }
        }
        return NONE;
    }

    private static void atFirst() {
        sentence("It is HOUR 0 at first, nobody knows anything.");
        DeepBathing x = Asked.told(PLANNED);
        due("hour", 0, x.has(4));
        due("known", 0, x.has(6));
        due("strengths", 0, x.has(7));
        due("knows", 0, x.knows(0, 0));
        due("the first row", 1, x.hours(1));
        due("in hour 0", 0, x.kept(0, 0));
        due("hour", 1, x.has(4));
    }

    private static void strengths() {
        sentence("A BATHER knows an IDEA by a strength, 1 .. 99; 0 is not to know it.");
        for (int strength : new int[] {0, 1, 2, 98, 99}) {
            DeepBathing x = Asked.told("idea a depth 0;idea c depth 0;need a for c;bather b lung 0 wits 0;fades strength;");
            Asked.put(x, Asked.image(0, 0, strength, 0));
            due("on", true, x.on());
            int known = strength > 0 ? 1 : 0;
            due("strength " + strength, strength, x.knows(0, 0));
            due("known by " + strength, known, x.has(6));
            due("known by " + strength, known, x.bather(0, 2));
            due("known by " + strength, known, x.idea(0, 3));
            due("ready by " + strength, 1 + 2 * known, x.bather(0, 3));
            due("lasts by " + strength, strength > 0 ? 60 : NONE, x.lasts(0, 0));
            due("learns by " + strength, strength > 0 ? 0 : NONE, x.learns(0, 0));
            due("asked by " + strength, known, Asked.ask(x, "total known"));
            due("forgets by " + strength, strength > 0, x.forget(0, 0));
        }
        DeepBathing x = Asked.told(ONE);
        Asked.put(x, Asked.image(0, 0, 100));
        due("100", false, x.on());
    }

    private static void tides() {
        sentence("The TIDE in an HOUR is what the SUM of tide tells, 0 .. 9 (below is 0, above 9).");
        for (int n = -3; n <= 13; n++) {
            int tide = Math.max(0, Math.min(9, n));
            String sum = "tide " + (n < 0 ? "0" + n : "" + n) + ";";
            DeepBathing x = Asked.told("idea a depth " + tide + ";bather b lung 0 wits 0;keeps tide+10;" + sum);
            due(sum, tide, x.has(5));
            due(sum, tide, x.tide(0));
            due(sum, tide, x.tide(60));
            due(sum + " in keeps", tide + 10, x.keeps(0, 0));
            due(sum + " asked", tide, Asked.ask(x, "total tide"));
            due(sum + " ready", 1, x.bather(0, 3));
        }
        due("far below", 0, Asked.told("tide 0-9999*9999;").has(5));
        due("far above", 9, Asked.told("tide 9999*9999;").has(5));
        DeepBathing x = Asked.told("tide hour-1;");
        int[] tides = {0, 0, 1, 2, 3, 4, 5, 6, 7, 8, 9, 9, 9};
        for (int n = 0; n < tides.length; n++) {
            due("in hour " + n, tides[n], x.tide(n));
        }
    }

    private static void needs() {
        sentence("An IDEA NEEDS those of which a NEED is told for it.");
        DeepBathing x = Asked.told(Asked.ideas(8, 0));
        due("none", 0, x.idea(7, 1));
        x = Asked.told(Asked.ideas(8, 0) + "need ia for ih;need ig for ih;need ia for ib;need ib for ig;");
        due("of h", 1 | 1 << 6, x.idea(7, 1));
        due("of g", 2, x.idea(6, 1));
        due("of b", 1, x.idea(1, 1));
        due("of a", 0, x.idea(0, 1));
    }

    private static void ready() {
        sentence("A BATHER is READY for an IDEA, if it is no deeper than the TIDE now, he knows all that it NEEDS, and the TEST of bears holds");
        for (int tide = 0; tide <= 9; tide++) {
            StringBuilder s = new StringBuilder("tide " + tide + ";bather b lung 0 wits 0;");
            for (int depth = Math.max(0, tide - 1); depth <= Math.min(9, tide + 1); depth++) {
                s.append("idea i").append((char) ('a' + depth)).append(" depth ").append(depth).append(';');
            }
            int noDeeper = tide == 0 ? 1 : 2;
            due("at tide " + tide, (1 << noDeeper) - 1, Asked.told(s.toString()).bather(0, 3));
        }
        DeepBathing x = Asked.told(Asked.ideas(4, 0) + "need ia for id;need ib for id;need ic for id;bather b lung 0 wits 0;");
        due("none of three", 7, x.bather(0, 3));
        x.duck(0, 0);
        due("one of three", 7, x.bather(0, 3));
        x.duck(0, 2);
        due("two of three", 7, x.bather(0, 3));
        due("not ready", NONE, x.duck(0, 3));
        x.duck(0, 1);
        due("three of three", 15, x.bather(0, 3));
        due("ready", 20, x.duck(0, 3));
        x.forget(0, 0);
        due("two of three again", 7, x.bather(0, 3));
        x = Asked.told(Asked.chain(3) + "bather b lung 0 wits 0;");
        Asked.put(x, Asked.image(0, 0, 0, 1, 0));
        x.on();
        due("what it needs, not its roots", 5, x.bather(0, 3));
        for (int lung = 4; lung <= 6; lung++) {
            x = Asked.told("idea a depth 5;bather b lung " + lung + " wits 0;bears lung>depth;");
            due("bears by lung " + lung, lung > 5 ? 1 : 0, x.bather(0, 3));
        }
        sentence("(known as it is ahead of it)");
        x = Asked.told(ONE + "idea c depth 0;bears known<1;keeps 30+known;plan b in c;");
        due("none is known", 3, x.bather(0, 3));
        due("ahead of it", 30, x.duck(0, 0));
        due("one is known", 0, x.bather(0, 3));
        due("one is known", NONE, x.duck(0, 1));
        due("one is known", 0, x.hours(1));
        x.forget(0, 0);
        due("none is known", 1, x.hours(1));
        due("ahead of it", 30, x.knows(0, 1));
    }

    private static void ducked() {
        sentence("To DUCK him in it: he knows it by the SUM of keeps by what is so ahead of it, 1 .. 99 (below is 1, above 99), even if he knew it better");
        String[] sums = {"0-9999*9999", "0-1", "0", "1", "2", "98", "99", "100", "9999*9999"};
        int[] want = {1, 1, 1, 1, 2, 98, 99, 99, 99};
        for (int k = 0; k < sums.length; k++) {
            DeepBathing x = Asked.told(PLANNED + "keeps " + sums[k] + ";");
            due("keeps " + sums[k], want[k], x.keeps(0, 0));
            due("match by " + sums[k], want[k], x.match(NONE));
            due("duck by " + sums[k], want[k], x.duck(0, 0));
            due("knows by " + sums[k], want[k], x.knows(0, 0));
            x.hours(1);
            due("planned by " + sums[k], want[k], x.kept(0, 3));
        }
        for (int before : new int[] {0, 49, 50, 51, 99}) {
            DeepBathing x = Asked.told(ONE + "keeps 50;");
            Asked.put(x, Asked.image(0, 0, before));
            x.on();
            due("he knew it by " + before, 50, x.duck(0, 0));
        }
    }

    private static void rowOfTheHour() {
        sentence("An HOUR: FIRST the row of the PLAN of number HOUR modulo its length (none without a PLAN)");
        for (int n = 1; n <= 16; n++) {
            StringBuilder s = new StringBuilder(Asked.ideas(8, 0) + Asked.bathers(6));
            for (int k = 0; k < n; k++) {
                s.append("plan b").append((char) ('a' + k % 6)).append(" in i").append((char) ('a' + k % 8)).append(';');
            }
            DeepBathing x = Asked.told(s.toString());
            due("ducked by " + n, 40, x.hours(40));
            for (int hour = 0; hour < 40; hour++) {
                due("hour", hour, x.kept(hour, 0));
                due("bather in hour " + hour + " of " + n, hour % n % 6, x.kept(hour, 1));
                due("idea in hour " + hour + " of " + n, hour % n % 8, x.kept(hour, 2));
            }
            Asked.at(x, 998).hours(1);
            due("idea in hour 998 of " + n, 998 % n % 8, x.kept(0, 2));
        }
        DeepBathing x = Asked.told(ONE);
        due("none", 0, x.hours(100));
        due("none", 0, x.has(8));
        due("none by the seed", 0, x.chance(1));
        due("the hours pass", 101, x.has(4));
    }

    private static void duckedIfReady() {
        sentence("if its BATHER is READY for its IDEA, he is DUCKED in it.");
        for (int depth = 3; depth <= 5; depth++) {
            DeepBathing x = Asked.told("idea a depth " + depth + ";bather b lung 0 wits 0;plan b in a;tide 4;keeps 50;");
            ducks("depth " + depth, x, depth <= 4);
        }
        for (int strength = 0; strength <= 2; strength++) {
            DeepBathing x = Asked.told("idea n depth 0;idea a depth 0;need n for a;bather b lung 0 wits 0;plan b in a;keeps 50;");
            Asked.put(x, Asked.image(0, 0, strength, 0, 0, 1));
            x.on();
            due("needs, known by " + strength, strength > 0 ? 1 : 0, x.hours(1));
            due("knows, by " + strength, strength > 0 ? 50 : 0, x.knows(0, 1));
        }
        ducks("bears", Asked.told(PLANNED + "keeps 50;bears wits<1;"), true);
        ducks("bears not", Asked.told(PLANNED + "keeps 50;bears wits>0;"), false);
        // the row's own BATHER is asked, whatever the other one could
        String two = "idea a depth 0;bather b lung 1 wits 0;bather e lung 2 wits 0;keeps 50;bears lung=2;";
        ducks("the first is not ready", Asked.told(two + "plan b in a;"), false);
        DeepBathing x = Asked.told(two + "plan e in a;");
        due("the other is ready", 1, x.hours(1));
        due("the other is ducked", 50, x.knows(1, 0));
        due("the first is not", 0, x.knows(0, 0));
        x = Asked.told("idea a depth 0;idea c depth 9;" + "bather b lung 0 wits 0;tide 8;plan b in c;plan b in a;plan b in c;");
        due("two of six are not", 2, x.hours(6));
        due("in hour 1", 1, x.kept(0, 0));
        due("in hour 4", 4, x.kept(1, 0));
    }

    private static void ducks(String what, DeepBathing x, boolean so) {
        due(what + ": later", so ? 50 : 0, x.later(0, 0, 1));
        due(what + ": hours", so ? 1 : 0, x.hours(1));
        due(what + ": knows", so ? 50 : 0, x.knows(0, 0));
        due(what + ": kept", so ? 1 : 0, x.has(8));
        x.chance(1);
        due(what + ": kept by the seed", so ? 2 : 0, x.has(8));
    }

    private static void fading() {
        sentence("he knows by what the SUM of fades tells, 0 .. 99 (below is 0, above 99)");
        String[] sums = {"0-9999*9999", "0-1", "0", "1", "98", "99", "100", "9999*9999",
            "strength-51", "strength-50", "strength-49", "strength+48", "strength+49", "strength+50"};
        int[] want = {0, 0, 0, 1, 98, 99, 99, 99, 0, 0, 1, 98, 99, 99};
        for (int k = 0; k < sums.length; k++) {
            DeepBathing x = Asked.told(ONE + "keeps 50;fades " + sums[k] + ";");
            x.hours(1);
            due("not known, not by " + sums[k], 0, x.knows(0, 0));
            x.duck(0, 0);
            due("later by " + sums[k], want[k], x.later(0, 0, 1));
            x.hours(1);
            due("fades " + sums[k], want[k], x.knows(0, 0));
            due("known by " + sums[k], want[k] > 0 ? 1 : 0, x.has(6));
        }
        sentence("each IDEA that each BATHER knows, but for the one in which he was just DUCKED");
        DeepBathing x = Asked.told("idea a depth 0;idea c depth 9;idea d depth 0;bather b lung 0 wits 0;bather e lung 0 wits 0;"
                + "tide 8;fades strength-2;plan b in a;plan b in c;");
        Asked.put(x, Asked.image(0, 0, 50, 50, 50, 50, 50, 50, 0, 0, 0, 1));
        x.on();
        x.hours(1);
        int[][] first = {{20, 48, 48}, {48, 48, 48}};
        int[][] second = {{18, 46, 46}, {46, 46, 46}};
        for (int b = 0; b < 2; b++) {
            for (int i = 0; i < 3; i++) {
                due("just ducked: " + b + " in " + i, first[b][i], x.knows(b, i));
                due("planned, not ready: " + b + " in " + i, second[b][i], x.later(b, i, 1));
            }
        }
        x.duck(0, 0);
        x.hours(1);
        due("ducked by an act, it fades", 18, x.knows(0, 0));
    }

    private static void atOnce() {
        sentence("THEN all at once, by what is so then (the HOUR as it is, known, rooted, too)");
        DeepBathing x = Asked.told(Asked.ideas(3, 0) + "bather b lung 0 wits 0;fades strength-known*10;");
        Asked.put(x, Asked.image(0, 0, 30, 31, 40));
        x.on();
        x.hours(1);
        due("three are known", 0, x.knows(0, 0));
        due("three are known", 1, x.knows(0, 1));
        due("three are known", 10, x.knows(0, 2));
        x.hours(1);
        due("two are known", 0, x.knows(0, 2));
        x = Asked.told(Asked.chain(3) + "bather b lung 0 wits 0;fades strength*rooted;");
        Asked.put(x, Asked.image(0, 0, 0, 50, 60));
        x.on();
        x.hours(1);
        due("b is not rooted", 0, x.knows(0, 1));
        due("c is rooted, b is known then", 60, x.knows(0, 2));
        x.hours(1);
        due("c is not rooted", 0, x.knows(0, 2));
        x = Asked.told("idea a depth 0;idea c depth 0;bather b lung 0 wits 0;fades known*10+hour;plan b in c;");
        Asked.put(x, Asked.image(0, 7, 50, 0, 0, 1));
        x.on();
        x.hours(1);
        due("the one just ducked is known, the hour is not yet over", 27, x.knows(0, 0));
        x = Asked.told("idea a depth 0;idea c depth 0;need a for c;bather b lung 0 wits 0;fades 1+rooted*70;plan b in a;");
        Asked.put(x, Asked.image(0, 0, 0, 50, 0, 0));
        x.on();
        x.hours(1);
        due("rooted by the one just ducked", 71, x.knows(0, 1));
    }

    private static void lastHour() {
        sentence("The HOUR is one more (999 at most).");
        for (int n : new int[] {1, 2, 99, 100}) {
            for (int by = 0; by < 2; by++) {
                DeepBathing x = Asked.at(Asked.told(PLANNED), 999 - n);
                due("inside", n - 1, n == 1 ? 0 : pass(x, n - 1, by));
                x = Asked.at(Asked.told(PLANNED), 999 - n);
                due("at it", n, pass(x, n, by));
                due("the last hour", 999, x.has(4));
                due("it was passed", 998, x.kept(x.has(8) - 1, 0));
                due("no more", NONE, pass(x, 1, by));
                x = Asked.at(Asked.told(PLANNED), 1000 - n);
                due("beyond", NONE, pass(x, n, by));
                due("beyond, all stays", 1000 - n, x.has(4));
                due("beyond, no act", 0, x.has(10));
                due("beyond, refused", 1, x.status(3));
            }
        }
    }

    /** n HOURS, or n HOURS by the seed: how many have passed, NONE if refused. */
    private static int pass(DeepBathing x, int n, int by) {
        int before = x.has(4);
        int answer = by == 0 ? x.hours(n) : x.chance(n);
        return answer == NONE ? NONE : x.has(4) - before;
    }

    private static void draws() {
        sentence("A DRAW of m: x (the seed) becomes (1103515245 x + 12345) mod 2 to the 31; floor(x / 64) mod m.");
        sentence("BY THE SEED an HOUR begins with a DRAW of 100: below squall a DRAW of 10: that is the TIDE in that HOUR.");
        for (int s : new int[] {0, 1, 2, 63, 64, 12345, 65535, 65536, 1 << 30, Integer.MAX_VALUE - 1, Integer.MAX_VALUE}) {
            seed = s;
            int first = draw(100);
            for (int squall : new int[] {0, 1, first - 1, first, first + 1, 99, 100}) {
                if (squall >= 0 && squall <= 100) {
                    DeepBathing x = Asked.told("squall " + squall + ";");
                    due("seed " + s, true, x.seed(s));
                    due("draw " + first + ", squall " + squall, first < squall ? 1 : 0, x.chance(1));
                }
            }
        }
        for (int tide = 0; tide <= 9; tide++) {
            DeepBathing x = Asked.told(PLANNED + "tide " + tide + ";keeps tide+10;squall 1;");
            x.seed(seedOf(0, 9 - tide));
            due("a squall", 1, x.chance(1));
            due("its tide", 19 - tide, x.knows(0, 0));
            due("the tide now is none of it", tide, x.has(5));
        }
        for (int tide = 4; tide <= 6; tide++) {
            DeepBathing x = Asked.told("idea a depth 5;bather b lung 0 wits 0;plan b in a;tide 0;squall 100;");
            x.seed(seedOf(99, tide));
            due("a squall", 1, x.chance(1));
            due("ready at tide " + tide, tide >= 5 ? 15 : 0, x.knows(0, 0));
        }
        for (int squall : new int[] {0, 1, 30, 99, 100}) {
            manyDraws(squall);
        }
    }

    private static void manyDraws(int squall) {
        DeepBathing x = Asked.told(PLANNED + "tide 3;keeps tide+10;squall " + squall + ";");
        seed = 1;
        for (int round = 0; round < 9; round++) {
            int squalls = 0;
            int[] tides = new int[100];
            for (int hour = 0; hour < 100; hour++) {
                boolean wild = draw(100) < squall;
                squalls += wild ? 1 : 0;
                tides[hour] = wild ? draw(10) : 3;
            }
            due("squalls of round " + round, squalls, x.chance(100));
            for (int k = 0; k < 40; k++) {
                due("tide of round " + round, tides[60 + k] + 10, x.kept(k, 3));
            }
        }
    }

    private static void kept() {
        sentence("KEPT is each that is DUCKED in an HOUR (not by an act): HOUR, BATHER, IDEA, strength; the last 40 are told.");
        for (int n : new int[] {0, 1, 39, 40, 41, 80, 100}) {
            DeepBathing x = Asked.told(PLANNED + "keeps hour+1;");
            if (n > 0) {
                x.hours(n);
            }
            int count = Math.min(n, 40);
            due("of " + n, count, x.has(8));
            due("below, of " + n, NONE, x.kept(-1, 0));
            due("oldest, of " + n, n == 0 ? NONE : n - count, x.kept(0, 0));
            due("latest, of " + n, n == 0 ? NONE : n - 1, x.kept(count - 1, 0));
            due("its strength, of " + n, n == 0 ? NONE : Math.min(99, n), x.kept(count - 1, 3));
            due("beyond, of " + n, NONE, x.kept(count, 0));
        }
        DeepBathing x = Asked.told(PLANNED);
        x.hours(40);
        x.duck(0, 0);
        due("not by an act", 0, x.kept(0, 0));
        due("not by an act", 40, x.has(8));
        x.chance(1);
        due("by the seed", 1, x.kept(0, 0));
        x.undo();
        due("undone", 0, x.kept(0, 0));
        due("undone", 39, x.kept(39, 0));
        x = Asked.told("idea a depth 5;bather b lung 0 wits 0;plan b in a;tide hour;");
        x.hours(6);
        due("none but who is ducked", 1, x.has(8));
        due("none but who is ducked", 5, x.kept(0, 0));
    }

    private static void acts() {
        sentence("ACTS: a BATHER who is READY is DUCKED in an IDEA; he forgets one (strength 0); a row of the PLAN is told anew; HOURS; HOURS by the seed.");
        DeepBathing x = Asked.told(PLANNED + "idea c depth 0;");
        x.duck(0, 0);
        due("duck", 1, x.has(10));
        x.forget(0, 0);
        due("forget", 2, x.has(10));
        x.send(0, 0, 1);
        due("send", 3, x.has(10));
        x.hours(100);
        due("hours", 4, x.has(10));
        x.chance(100);
        due("chance", 5, x.has(10));
        x.duck(0, 2);
        x.forget(0, 0);
        x.send(0, 0, 1);
        x.hours(0);
        x.chance(101);
        x.seed(5);
        x.image();
        x.odds(0, 0);
        x.change(5, 0);
        Asked.ask(x, "total hour");
        Asked.put(x, 0, 0, 0, 0);
        x.discover();
        due("nothing else", 5, x.has(10));
        sentence("The last 20 can be undone.");
        for (int n : new int[] {0, 1, 19, 20, 21, 41}) {
            x = Asked.told(PLANNED);
            for (int k = 0; k < n; k++) {
                x.hours(1);
            }
            int can = Math.min(n, 20);
            due("of " + n, can, x.has(10));
            for (int k = 1; k <= can; k++) {
                due("undone", true, x.undo());
                due("hour", n - k, x.has(4));
                due("left", can - k, x.has(10));
            }
            due("no more of " + n, false, x.undo());
            due("all stays", n - can, x.has(4));
            due("refused", 1, x.status(4));
        }
        x = Asked.told(PLANNED);
        for (int k = 0; k < 30; k++) {
            x.hours(1);
        }
        for (int k = 0; k < 15; k++) {
            x.undo();
        }
        for (int k = 0; k < 14; k++) {
            x.hours(2);
        }
        due("nineteen", 19, x.has(10));
        x.hours(2);
        x.hours(2);
        due("twenty", 20, x.has(10));
        for (int k = 0; k < 20; k++) {
            x.undo();
        }
        due("to the eleventh", 11, x.has(4));
        due("no more", false, x.undo());
    }

    public static void main(String[] args) {
        atFirst();
        strengths();
        tides();
        needs();
        ready();
        ducked();
        rowOfTheHour();
        duckedIfReady();
        fading();
        atOnce();
        lastHour();
        draws();
        kept();
        acts();
        Asked.end();
    }
}
