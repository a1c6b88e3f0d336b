/** Terms III: each sentence that names a boundary of HOURS AHEAD, COURSES, CHANGES, MATCHES, ODDS, WITS, TELLING. */
public final class EdgesOfAheadTest {
    private static final int NONE = DeepBathing.NONE;
    private static final String ONE = "idea a depth 0;bather b lung 0 wits 0;";
    private static final String PLANNED = ONE + "plan b in a;";

    private static void sentence(String words) {
        Asked.sentence(words);
    }

    private static void due(String what, long want, long got) {
        Asked.due(what, want, got);
    }

    private static DeepBathing knowing(String text, int... strengthsAndRows) {
        DeepBathing x = Asked.told(text);
        int[] ahead = new int[2 + strengthsAndRows.length];
        System.arraycopy(strengthsAndRows, 0, ahead, 2, strengthsAndRows.length);
        Asked.put(x, Asked.image(ahead));
        Asked.due("on() for " + text, true, x.on());
        return x;
    }

    private static void ahead() {
        sentence("AHEAD are HOURS as they come from now on without DRAWS (60 at most, not beyond HOUR 999).");
        DeepBathing x = Asked.told(PLANNED + "keeps hour+1;tide hour/7;squall 100;");
        for (int n : new int[] {0, 1, 2, 59, 60}) {
            due("tide " + n, n / 7, x.tide(n));
            due("later " + n, n, x.later(0, 0, n));
        }
        for (int n : new int[] {-1, 61, 62, Integer.MIN_VALUE, Integer.MAX_VALUE}) {
            due("tide " + n, NONE, x.tide(n));
            due("later " + n, NONE, x.later(0, 0, n));
        }
        x = Asked.told(PLANNED + "keeps hour-937;tide hour-990;squall 100;");
        for (int hour : new int[] {938, 939, 940, 998, 999}) {
            Asked.at(x, hour);
            int most = Math.min(60, 999 - hour);
            due("tide, now at " + hour, Math.max(0, hour - 990), x.tide(0));
            due("tide, inside at " + hour, most == 0 ? NONE : Math.min(9, Math.max(0, hour + most - 991)), x.tide(most - 1));
            due("tide at " + hour, Math.max(0, Math.min(9, hour + most - 990)), x.tide(most));
            due("tide beyond at " + hour, NONE, x.tide(most + 1));
            due("later, now at " + hour, 0, x.later(0, 0, 0));
            due("later, inside at " + hour, most == 0 ? NONE : most == 1 ? 0 : hour + most - 2 - 937, x.later(0, 0, most - 1));
            due("later at " + hour, most == 0 ? 0 : hour + most - 1 - 937, x.later(0, 0, most));
            due("later beyond at " + hour, NONE, x.later(0, 0, most + 1));
        }
        for (int hour = 57; hour <= 61; hour++) {
            x = Asked.told(PLANNED + "bears hour=" + hour + ";");
            due("learns in hour " + hour, hour < 60 ? hour + 1 : NONE, x.learns(0, 0));
        }
        for (int hour : new int[] {937, 938, 939, 997, 998, 999}) {
            x = Asked.at(Asked.told(PLANNED + "bears hour=998;"), hour);
            due("learns at " + hour + " for 998", hour < 939 || hour > 998 ? NONE : 999 - hour, x.learns(0, 0));
            x = Asked.at(Asked.told(PLANNED + "bears hour=999;"), hour);
            due("learns at " + hour + " for 999", NONE, x.learns(0, 0));
        }
        due("learns now at 999", 0, Asked.at(knowing(PLANNED, 7, 0, 0), 999).learns(0, 0));
    }

    private static void roots() {
        sentence("ROOTS of an IDEA are all that it NEEDS, that these NEED, and so on.");
        DeepBathing x = Asked.told(Asked.chain(8));
        for (int i = 0; i < 8; i++) {
            due("needs of " + i, i == 0 ? 0 : 1 << i - 1, x.idea(i, 1));
            due("roots of " + i, (1 << i) - 1, x.idea(i, 2));
        }
        // the need behind is told ahead of that on which it rests
        x = Asked.told(Asked.ideas(5, 0) + "need ic for ie;need ib for ic;need ia for ib;need ia for id;");
        int[] roots = {0, 1, 3, 1, 7};
        for (int i = 0; i < 5; i++) {
            due("roots of " + i, roots[i], x.idea(i, 2));
        }
    }

    private static void lasts() {
        sentence("To LAST are the most HOURS AHEAD (60 at most) behind which, as if there were no PLAN, a BATHER still knows an IDEA that he knows now.");
        for (int strength : new int[] {0, 1, 2, 59, 60, 61, 62, 99}) {
            int most = strength == 0 ? NONE : Math.min(60, strength - 1);
            due("strength " + strength, most, knowing(ONE, strength).lasts(0, 0));
            due("no plan, strength " + strength, most, knowing(PLANNED, strength, 0, 0).lasts(0, 0));
        }
        due("for ever", 60, knowing(ONE + "fades 99;", 1).lasts(0, 0));
        due("not one hour", 0, knowing(ONE + "fades 0;", 99).lasts(0, 0));
        for (int hour : new int[] {937, 938, 939, 940, 998, 999}) {
            DeepBathing x = Asked.at(knowing(ONE, 99), hour);
            due("at hour " + hour, Math.min(60, 999 - hour), x.lasts(0, 0));
        }
        DeepBathing x = knowing(ONE + "fades strength*(60-hour);", 5);
        due("to hour 60", 60, x.lasts(0, 0));
        due("gone in hour 59", 59, knowing(ONE + "fades strength*(59-hour);", 5).lasts(0, 0));
        due("gone in hour 58", 58, knowing(ONE + "fades strength*(58-hour);", 5).lasts(0, 0));
    }

    private static void course(DeepBathing x, int idea, int... ideas) {
        due("hours of a course for " + idea, ideas.length, x.course(0, idea, NONE));
        for (int k = 0; k < ideas.length; k++) {
            due("course for " + idea + " at " + k, ideas[k], x.course(0, idea, k));
        }
        for (int k : new int[] {ideas.length, 3, 4, 5, -2, Integer.MAX_VALUE, Integer.MIN_VALUE}) {
            due("course for " + idea + " beyond, at " + k, k == 3 && ideas.length == 4 ? ideas[3] : NONE, x.course(0, idea, k));
        }
    }

    private static void noCourse(DeepBathing x, int idea) {
        for (int k = -2; k <= 5; k++) {
            due("without a course for " + idea + " at " + k, NONE, x.course(0, idea, k));
        }
    }

    private static void courses() {
        sentence("A COURSE of a BATHER for an IDEA is a row of HOURS (0 .. 4 of them, not beyond HOUR 999)");
        String chain = Asked.chain(5) + "bather b lung 0 wits 0;";
        DeepBathing x = Asked.told(chain);
        course(x, 0, 0);
        course(x, 1, 0, 1);
        course(x, 2, 0, 1, 2);
        course(x, 3, 0, 1, 2, 3);
        noCourse(x, 4);
        x = knowing(chain, 9, 0, 0, 0, 1);
        course(x, 0);
        course(x, 4);
        course(x, 3, 1, 2, 3);
        for (int hour = 994; hour <= 999; hour++) {
            Asked.at(x = Asked.told(chain), hour);
            for (int idea = 0; idea < 5; idea++) {
                if (idea < 4 && idea + 1 <= 999 - hour) {
                    due("course at " + hour, idea + 1, x.course(0, idea, NONE));
                    due("its last one at " + hour, idea, x.course(0, idea, idea));
                } else {
                    noCourse(x, idea);
                }
            }
        }
        course(Asked.at(knowing(chain, 1, 0, 0, 0, 0), 999), 0);
        sentence("in each of which, in the place of the PLAN, he is DUCKED in one IDEA, for which he is READY then, or nobody is DUCKED, behind which he knows it");
        for (int hour = 0; hour <= 5; hour++) {
            x = Asked.told(PLANNED + "bears hour=" + hour + ";");
            if (hour > 3) {
                noCourse(x, 0);
            } else {
                int[] ideas = new int[hour + 1];
                java.util.Arrays.fill(ideas, NONE);
                ideas[hour] = 0;
                course(x, 0, ideas);
            }
        }
        for (int tide = 4; tide <= 6; tide++) {
            x = Asked.told("idea a depth 5;bather b lung 0 wits 0;tide " + tide + ";");
            due("at tide " + tide, tide >= 5 ? 1 : NONE, x.course(0, 0, NONE));
        }
        course(Asked.told("idea a depth 5;bather b lung 0 wits 0;tide hour*2;"), 0, NONE, NONE, NONE, 0);
        noCourse(Asked.told("idea a depth 7;bather b lung 0 wits 0;tide hour*2;"), 0);
        // what he needs is gone by the time: a 20 - 19, 1 - 19
        course(Asked.told(Asked.chain(2) + "bather b lung 0 wits 0;fades strength-19;"), 1, 0, 1);
        noCourse(Asked.told(Asked.ideas(3, 0) + "need ia for ic;need ib for ic;bather b lung 0 wits 0;fades strength-20;"), 2);
        course(Asked.told(Asked.ideas(3, 0) + "need ia for ic;need ib for ic;bather b lung 0 wits 0;fades strength-19;"), 2, 0, 1, 2);
        sentence("the fewest HOURS; of like ones the first row (HOUR by HOUR nobody, then IDEAS by numbers)");
        course(knowing(Asked.ideas(2, 0) + "bather b lung 0 wits 0;", 0, 9), 1);
        course(knowing(Asked.ideas(2, 0) + "bather b lung 0 wits 0;", 0, 9), 0, 0);
        // by nobody and a, or by a and nobody, he would know it as well: by one HOUR more
        course(Asked.told(ONE + "bears hour<4;fades strength;"), 0, 0);
        course(Asked.told(Asked.chain(2) + "bather b lung 0 wits 0;fades strength;"), 1, 0, 1);
        course(knowing(Asked.chain(3) + "bather b lung 0 wits 0;fades strength;", 0, 9, 0), 2, 2);
        // of a itself by HOUR 1 alone: what is first in order is no help if it is longer
        course(Asked.told("idea a depth 0;idea c depth 0;bather b lung 0 wits 0;bears depth=0 and hour>0 or known=0;fades strength;"), 1, 1);
        String late = "bather b lung 0 wits 0;bears depth=0 and hour=1 or depth>0;";
        course(Asked.told("idea a depth 1;idea c depth 0;" + late), 1, NONE, 1);
        String two = "idea a depth 1;idea c depth 1;idea d depth 0;bather b lung 0 wits 0;";
        course(Asked.told(two + "bears depth=1 or known>0;"), 2, 0, 2);
        course(Asked.told(two + "bears depth=1 or known>1;"), 2, 0, 1, 2);
        course(Asked.told(two + "bears depth=1 and hour>0 or known>0;"), 2, NONE, 0, 2);
        course(knowing(two + "bears depth=1 or known>0;", 0, 5, 0), 2, 2);
    }

    private static void change(DeepBathing x, int n, int less, int other, int sum) {
        due("less, for " + n, less, x.change(n, 0));
        due("other, for " + n, other, x.change(n, 1));
        due("sum, for " + n, sum, x.change(n, 2));
    }

    private static void changes() {
        sentence("A CHANGE for n HOURS are two rows of the PLAN, or none");
        change(new DeepBathing(), 1, NONE, NONE, 0);
        change(Asked.told(ONE), 30, NONE, NONE, 0);
        change(Asked.told(PLANNED), 1, NONE, NONE, 20);
        change(Asked.told(PLANNED), 30, NONE, NONE, 20);
        String deep = "idea a depth 0;idea c depth 9;bather b lung 0 wits 0;tide 8;fades strength;";
        change(Asked.told(deep + "plan b in c;plan b in a;"), 1, 0, 1, 20);
        change(Asked.told(deep + "plan b in c;plan b in a;"), 2, NONE, NONE, 20);
        String sixteen = deep + Asked.times(15, "plan b in c;") + "plan b in a;";
        change(Asked.told(sixteen), 1, 0, 15, 20);
        change(Asked.told(sixteen), 15, 0, 15, 20);
        change(Asked.told(sixteen), 16, NONE, NONE, 20);
        change(Asked.at(Asked.told(sixteen), 16 * 5 + 14), 1, 14, 15, 20);
        change(Asked.at(Asked.told(sixteen), 16 * 5 + 15), 1, NONE, NONE, 20);
        for (int n : new int[] {0, -1, 31, Integer.MIN_VALUE, Integer.MAX_VALUE}) {
            change(Asked.told(sixteen), n, NONE, NONE, NONE);
        }
        change(Asked.told(sixteen), 29, NONE, NONE, 20);
        change(Asked.told(sixteen), 30, NONE, NONE, 20);
        for (int hour : new int[] {968, 969, 970, 998, 999}) {
            DeepBathing x = Asked.at(knowing(PLANNED + "fades strength;keeps 30;", 7, 0, 0), hour);
            int most = Math.min(30, 999 - hour);
            due("inside at " + hour, most > 1 ? 30 : NONE, x.change(most - 1, 2));
            due("at hour " + hour, most > 0 ? 30 : NONE, x.change(most, 2));
            due("beyond at " + hour, NONE, x.change(most + 1, 2));
            due("beyond at " + hour, NONE, x.change(most + 1, 0));
        }
        sentence("which, taken for one another now, let all strengths of all together be most behind n HOURS; of like ones none, then the first (by the less number, then by the other one)");
        change(Asked.told(deep + "plan b in a;plan b in c;plan b in c;"), 1, NONE, NONE, 20);
        change(Asked.told(deep + "plan b in c;plan b in c;plan b in a;plan b in a;"), 1, 0, 2, 20);
        change(Asked.told(deep + "plan b in c;plan b in c;plan b in a;plan b in a;"), 2, 0, 2, 20);
        change(Asked.told(deep + "plan b in c;plan b in c;plan b in a;plan b in a;"), 3, NONE, NONE, 20);
        change(Asked.at(Asked.told(deep + "plan b in a;plan b in a;plan b in c;"), 2), 1, 0, 2, 20);
        // a for row 3 in hour 0, c for row 2 in hour 1: the less number goes first
        change(Asked.told("idea n depth 0;idea p depth 1;idea q depth 2;bather b lung 0 wits 0;keeps 20;fades strength;"
                + "bears depth=1 and hour=0 or depth=2 and hour=1;plan b in n;plan b in n;plan b in q;plan b in p;"), 2, 0, 3, 20);
        change(Asked.told("idea n depth 0;idea p depth 1;idea q depth 2;bather b lung 0 wits 0;keeps 19+depth;fades strength;"
                + "bears depth=1 and hour=0 or depth=2 and hour=1;plan b in n;plan b in n;plan b in q;plan b in p;"), 2, 1, 2, 21);
        DeepBathing x = Asked.told(Asked.ideas(2, 0) + Asked.bathers(2) + "keeps 20;fades strength;plan ba in ia;plan ba in ia;plan bb in ia;plan bb in ib;");
        change(x, 2, 0, 2, 40);
        due("it is not done", 0, x.plan(0, 0));
        due("it is no act", 0, x.has(10));
    }

    private static void match(DeepBathing x, int sum, int... ideas) {
        due("sum", sum, x.match(NONE));
        for (int b = 0; b < ideas.length; b++) {
            due("idea of " + b, ideas[b], x.match(b));
        }
        for (int b : new int[] {ideas.length, -2, Integer.MIN_VALUE, Integer.MAX_VALUE}) {
            due("idea of " + b, NONE, x.match(b));
        }
    }

    private static void matches() {
        sentence("A MATCH is for each BATHER an IDEA, for which he is READY now, or none, unlike ones, by which what they would know of these by a DUCKING now is most together");
        match(new DeepBathing(), 0);
        match(Asked.told(Asked.bathers(6)), 0, NONE, NONE, NONE, NONE, NONE, NONE);
        match(Asked.told(Asked.ideas(8, 0)), 0);
        match(Asked.told(ONE + "bears 1=2;"), 0, NONE);
        for (int tide = 4; tide <= 6; tide++) {
            match(Asked.told("idea a depth 5;bather b lung 0 wits 0;tide " + tide + ";"), tide < 5 ? 0 : 15, tide < 5 ? NONE : 0);
        }
        match(Asked.told(ONE + "keeps 0;"), 1, 0);
        match(Asked.told(ONE + "keeps 100;"), 99, 0);
        match(Asked.at(Asked.told(ONE), 999), 20, 0);
        match(knowing(ONE, 99), 20, 0);
        match(Asked.told("idea a depth 0;idea c depth 1;bather s lung 0 wits 9;bather t lung 0 wits 0;keeps 10-depth;bears wits=9 or depth=0;"), 19, 1, 0);
        match(Asked.told(Asked.ideas(1, 0) + Asked.bathers(2)), 20, NONE, 0);
        match(Asked.told(Asked.ideas(6, 0) + Asked.bathers(6)), 120, 0, 1, 2, 3, 4, 5);
        match(Asked.told(Asked.ideas(5, 0) + Asked.bathers(6)), 100, NONE, 0, 1, 2, 3, 4);
        match(Asked.told(Asked.ideas(8, 0) + Asked.bathers(6)), 120, 0, 1, 2, 3, 4, 5);
        matchOfAnother();
        sentence("of like ones the first (BATHER by BATHER none, then IDEAS by numbers)");
        match(Asked.told("idea a depth 0;idea c depth 0;bather s lung 0 wits 1;bather t lung 0 wits 1;bather u lung 0 wits 2;"), 55, NONE, 0, 1);
        match(Asked.told("idea a depth 0;idea c depth 0;bather s lung 0 wits 2;bather t lung 0 wits 1;bather u lung 0 wits 1;"), 55, 0, NONE, 1);
        match(Asked.told("idea a depth 1;idea c depth 0;bather s lung 0 wits 1;"), 25, 1);
        match(Asked.told("idea a depth 0;idea c depth 1;bather s lung 0 wits 1;"), 25, 0);
    }

    /** Of a MATCH that was asked for before nothing is left. */
    private static void matchOfAnother() {
        DeepBathing x = Asked.told(Asked.ideas(8, 0) + Asked.bathers(6) + "keeps 99;");
        match(x, 6 * 99, 0, 1, 2, 3, 4, 5);
        for (int n = 5; n >= 0; n--) {
            Asked.put(x, Asked.ideas(8, 0) + Asked.bathers(n) + "keeps 10;");
            x.beach();
            due("of " + n, 10 * n, x.match(NONE));
            for (int b = 0; b <= 6; b++) {
                due("of " + n + ", bather " + b, b < n ? b : NONE, x.match(b));
            }
        }
        Asked.put(x, Asked.ideas(8, 0) + Asked.bathers(6) + "bears hour=1;");
        x.beach();
        match(x, 0, NONE, NONE, NONE, NONE, NONE, NONE);
        x.hours(1);
        match(x, 120, 0, 1, 2, 3, 4, 5);
        x.undo();
        match(x, 0, NONE, NONE, NONE, NONE, NONE, NONE);
    }

    private static void odds() {
        sentence("ODDS of a BATHER, an IDEA are by how many of all rows of a number below 100, a number below 10 he knows it behind the next HOUR by the seed.");
        for (int squall : new int[] {0, 1, 50, 99, 100}) {
            for (int depth = 0; depth <= 9; depth++) {
                for (int tide = Math.max(0, depth - 1); tide <= Math.min(9, depth + 1); tide++) {
                    DeepBathing x = Asked.told("idea a depth " + depth + ";bather b lung 0 wits 0;plan b in a;tide " + tide + ";squall " + squall + ";");
                    int want = squall * (10 - depth) + (tide >= depth ? 10 * (100 - squall) : 0);
                    due("squall " + squall + " depth " + depth + " tide " + tide, want, x.odds(0, 0));
                }
            }
        }
        due("not planned", 0, Asked.told(ONE).odds(0, 0));
        for (int strength = 0; strength <= 2; strength++) {
            due("known by " + strength, strength < 2 ? 0 : 1000, knowing(ONE + "squall 50;", strength).odds(0, 0));
        }
        DeepBathing x = Asked.told(PLANNED + "squall 50;");
        due("at 998", 1000, Asked.at(x, 998).odds(0, 0));
        due("at 999", NONE, Asked.at(x, 999).odds(0, 0));
        due("the seed is not drawn", 1, seedIsFirst() ? 1 : 0);
    }

    /** By seed 1 the first DRAW is 18: ODDS leave it. */
    private static boolean seedIsFirst() {
        DeepBathing x = Asked.told(PLANNED + "squall 19;");
        x.odds(0, 0);
        return x.chance(1) == 1;
    }

    private static DeepBathing found(DeepBathing x, int... rows) {
        Asked.put(x, rows);
        due("rows found", rows.length / 4, x.discover());
        return x;
    }

    private static void foundRows() {
        sentence("FOUND are rows of HOURS AHEAD (0 .. 30), a BATHER, an IDEA, the strength by which he knows it behind these (0 .. 99)");
        DeepBathing x = Asked.told(Asked.ideas(3, 0) + Asked.bathers(2));
        int[][] good = {{0, 0, 0, 0}, {1, 0, 0, 0}, {29, 0, 0, 0}, {30, 0, 0, 0}, {0, 1, 0, 0}, {0, 0, 2, 0}, {0, 0, 0, 1}, {0, 0, 0, 98},
            {0, 0, 0, 99}, {30, 1, 2, 99}};
        int[][] bad = {{31, 0, 0, 0}, {255, 0, 0, 0}, {0, 2, 0, 0}, {0, 255, 0, 0}, {0, 0, 3, 0}, {0, 0, 255, 0}, {0, 0, 0, 100}, {0, 0, 0, 255}};
        for (int[] row : good) {
            found(x, row);
            found(x, 0, 0, 0, 0, row[0], row[1], row[2], row[3]);
        }
        int refused = 0;
        for (int[] row : bad) {
            Asked.put(x, row);
            due("none such", NONE, x.discover());
            Asked.put(x, 0, 0, 0, 0, row[0], row[1], row[2], row[3]);
            due("none such", NONE, x.discover());
            refused += 2;
            due("all stays", 2, x.has(9));
            due("refused", refused, x.status(1));
        }
    }

    private static void wits() {
        sentence("WITS (0 .. 9) are those that a told BATHER can have, so that all is so.");
        DeepBathing x = Asked.told(PLANNED + "keeps 10+wits;fades strength;");
        due("all, if nothing is", 1023, x.wits(0));
        for (int strength = 8; strength <= 21; strength++) {
            found(x, 1, 0, 0, strength);
            due("strength " + strength, strength < 10 || strength > 19 ? 0 : 1 << strength - 10, x.wits(0));
        }
        found(x, 1, 0, 0, 13, 30, 0, 0, 13, 0, 0, 0, 0);
        due("all is so", 8, x.wits(0));
        found(x, 1, 0, 0, 13, 30, 0, 0, 13, 0, 0, 0, 1);
        due("not all is so", 0, x.wits(0));
        x = Asked.told(PLANNED + "keeps 10+wits;fades strength;");
        int[] rows = new int[64];
        for (int k = 0; k < 16; k++) {
            rows[4 * k] = 2 * k;
            rows[4 * k + 3] = k == 0 ? 0 : 19;
        }
        found(x, rows);
        due("sixteen rows", 512, x.wits(0));
        rows[4 * 15 + 3] = 18;
        found(x, rows);
        due("the sixteenth is not so", 0, x.wits(0));
        sentence("(all, if nothing is; HOURS beyond 999 are by none)");
        x = Asked.told(PLANNED + "keeps 10+wits;fades strength;");
        for (int hour : new int[] {968, 969, 970, 998, 999}) {
            int most = Math.min(30, 999 - hour);
            x = Asked.at(Asked.told(PLANNED + "keeps 10+wits;fades strength;"), hour);
            due("at " + hour, 1023, x.wits(0));
            found(x, most, 0, 0, most == 0 ? 0 : 15);
            due("at it, hour " + hour, most == 0 ? 1023 : 32, x.wits(0));
            if (most < 30) {
                found(x, most + 1, 0, 0, 15);
                due("beyond, hour " + hour, 0, x.wits(0));
                found(x, most, 0, 0, most == 0 ? 0 : 15, most + 1, 0, 0, 15);
                due("one beyond, hour " + hour, 0, x.wits(0));
            }
        }
    }

    private static void telling(DeepBathing x, int hours, int idea, int left) {
        due("hours", hours, x.tells(0, 0));
        due("idea", idea, x.tells(0, 1));
        due("left", left, x.tells(0, 2));
    }

    private static void tellings() {
        sentence("TELLING is the number of HOURS AHEAD (1 .. 30), the IDEA, by whose strength with that BATHER then, whatever it is, the most of these left are fewest");
        for (int hour = 0; hour <= 31; hour++) {
            DeepBathing x = Asked.told(PLANNED + "keeps 10+wits;fades strength;bears hour=" + hour + ";");
            telling(x, hour < 30 ? hour + 1 : 1, 0, hour < 30 ? 1 : 10);
        }
        for (int hour : new int[] {968, 969, 970, 997, 998, 999}) {
            DeepBathing x = Asked.at(Asked.told(PLANNED + "keeps 10+wits;fades strength;bears hour=998;"), hour);
            int most = hour < 969 ? NONE : 999 - hour;
            telling(x, most == 0 ? NONE : most == NONE ? 1 : most, most == 0 ? NONE : 0, most == 0 ? NONE : most == NONE ? 10 : 1);
        }
        DeepBathing x = Asked.told(PLANNED + "keeps 10+wits/5*5;");
        telling(x, 1, 0, 5);
        telling(Asked.told(PLANNED + "keeps 10+wits/9;"), 1, 0, 9);
        telling(Asked.told(PLANNED + "keeps 10+wits/4;"), 1, 0, 4);
        telling(Asked.told(PLANNED + "keeps wits;"), 1, 0, 2);
        found(x, 1, 0, 0, 15);
        telling(x, 1, 0, 5);
        found(x, 1, 0, 0, 16);
        telling(x, NONE, NONE, NONE);
        telling(found(Asked.told(PLANNED + "keeps 10+wits;"), 1, 0, 0, 19), 1, 0, 1);
        sentence("of like ones the first, HOUR by HOUR, IDEA by IDEA");
        telling(Asked.told(Asked.ideas(3, 0) + "bather b lung 0 wits 0;"), 1, 0, 10);
        telling(Asked.told(Asked.ideas(3, 0) + "bather b lung 0 wits 0;plan b in ic;plan b in ia;"), 1, 2, 1);
        telling(Asked.told("idea a depth 1;idea c depth 0;bather b lung 0 wits 0;plan b in c;plan b in a;keeps 10+wits/(2-depth);"), 2, 0, 1);
        telling(Asked.told("idea a depth 0;idea c depth 0;bather b lung 0 wits 0;plan b in c;plan b in a;keeps 10+wits/2;fades strength;"), 1, 1, 2);
        telling(Asked.told("idea a depth 0;idea c depth 1;bather b lung 0 wits 0;plan b in c;keeps 10+wits;fades strength;bears hour>1;"), 3, 1, 1);
        // both are known since the same HOUR, and fade by what only there can be told
        telling(knowing("idea a depth 0;idea c depth 0;bather b lung 0 wits 0;fades strength-wits;", 50, 50), 1, 0, 1);
        telling(knowing("idea a depth 0;idea c depth 1;bather b lung 0 wits 0;fades strength-wits*depth;", 50, 50), 1, 1, 1);
        telling(knowing(ONE + "fades strength-wits/9;", 50), 1, 0, 9);
        telling(knowing(ONE + "fades strength-(wits+8)/9;", 50), 1, 0, 9);
    }

    public static void main(String[] args) {
        ahead();
        roots();
        lasts();
        courses();
        changes();
        matches();
        odds();
        foundRows();
        wits();
        tellings();
        Asked.end();
    }
}
