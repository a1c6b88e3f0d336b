/** Where the FAULTS of texts are: of each text its FAULT and its place (0 and -1: there is none). */
public final class FaultTest {
    private static final String I = "idea i depth 1;";
    private static final String IJ = "idea i depth 1;idea j depth 1;";
    private static final String OWN_WORDS = "idea depth need for bather lung wits plan in tide keeps fades bears squall"
            + " hour known strength rooted number knows ready or and not all min max";
    private static final String IB = "idea i depth 1;bather b lung 1 wits 1;";

    private static void beach(String text, int fault, int place) {
        Asked.beach(text, fault, place);
    }

    private static void ask(String text, int fault, int place) {
        Asked.question(text, fault, place);
    }

    private static void behind(String good, String bad, int fault, int on) {
        Asked.behind(good, bad, fault, on);
    }

    private static String times(int n, String text) {
        return Asked.times(n, text);
    }

    private static void goodTexts() {
        beach("", 0, -1);
        beach(" \n ", 0, -1);
        beach(" idea\na \n depth   0009 ; ", 0, -1);
        beach("idea abcdef depth 0;bather first lung 0 wits 0;plan first in abcdef;", 0, -1);
        beach("squall 0;squall 100;squall 50;", 0, -1);
        beach("tide(hour)+min(1,max(2 , 3))*4/5-6;", 0, -1);
        beach("keeps depth+wits+known+lung+tide+hour;", 0, -1);
        beach("fades depth+wits+known+strength+rooted+hour;", 0, -1);
        beach("bears depth<wits and known>lung or not tide=hour and[all or all];", 0, -1);
        beach("bears not not not not not not all;", 0, -1);
        beach("bears not not not[[[all]]]and[[[[[[1=1]]]]]]or((((((1))))))<2;", 0, -1);
        beach(times(60, "squall 1;") + "\n", 0, -1);
        ask("first all", 0, -1);
        ask(" total\nnumber + lung+wits+known+hour+tide+knows 0+ready(1)*knows ready 0 ", 0, -1);
        ask("total knows knows knows knows knows knows 0+ready ready ready ready ready ready 1", 0, -1);
    }

    private static void noSuchText() {
        beach("x;", 1, 0);
        beach(";", 1, 0);
        beach("7", 1, 0);
        beach("Idea a depth 1;", 1, 0);
        beach("\tidea a depth 1;", 1, 0);
        beach("ide", 1, 0);
        beach("ideas a depth 1;", 1, 0);
        beach("  depth 1;", 1, 2);
        beach("idea", 1, 4);
        beach("idea  ", 1, 6);
        beach("idea 5", 1, 5);
        beach("idea ;", 1, 5);
        beach("idea for", 1, 5);
        beach("idea strength depth 1;", 1, 5);
        for (String word : OWN_WORDS.split(" ")) {
            beach("idea " + word + " depth 1;", 1, 5);
            beach(I + "need i for " + word + ";", 1, I.length() + 11);
        }
        beach("idea strengt", 1, 11);
        beach("idea strengths", 1, 11);
        beach("idea squalls", 1, 11);
        beach("idea abcdefg", 1, 11);
        beach("idea abcdefghij depth 1;", 1, 11);
        beach("idea abcdef", 1, 11);
        beach("idea a1 depth 1;", 1, 6);
        beach("idea aB depth 1;", 1, 6);
        beach("idea a deep 1;", 1, 7);
        beach("idea a depths 1;", 1, 7);
        beach("idea a depth1;", 1, 12);
        beach("idea a depth x;", 1, 13);
        beach("idea a depth 12345;", 1, 17);
        beach("idea a depth 00001;", 1, 17);
        beach("idea a depth 1", 1, 14);
        beach("idea a depth 1  ", 1, 16);
        beach("idea a depth 1 2;", 1, 15);
        beach("idea a depth 1,", 1, 14);
        beach("idea a depth 1;;", 1, 15);
        beach("bather b lung 6wits 1;", 1, 15);
        beach("bather b lung 6 lung 1;", 1, 16);
        beach("squall 5 idea", 1, 9);
        beach("squall hour", 1, 7);
        beach("\u00e9", 1, 0);
        behind(I, "need i in i;", 1, 7);
        behind(IB, "plan b for i;", 1, 7);
    }

    private static void noSuchFormula() {
        beach("tide", 1, 4);
        beach("tide4;", 1, 4);
        beach("tide 4hour;", 1, 6);
        beach("tide hour4;", 1, 9);
        beach("tide 1+;", 1, 7);
        beach("tide -1;", 1, 5);
        beach("tide 12345;", 1, 9);
        beach("tide (1;", 1, 7);
        beach("tide 1);", 1, 6);
        beach("tide min 1;", 1, 9);
        beach("tide min;", 1, 8);
        beach("tide max;", 1, 8);
        beach("tide min(1);", 1, 10);
        beach("tide max(1,2,3);", 1, 12);
        beach("tide 1<2;", 1, 6);
        beach("tide all;", 1, 5);
        beach("tide [1];", 1, 5);
        for (String word : new String[] {"depth", "wits", "known", "lung", "tide", "strength", "rooted", "number", "knows", "ready", "x"}) {
            beach("tide 1+" + word + ";", 1, 7);
        }
        for (String word : new String[] {"strength", "rooted", "number", "knows 0", "ready 0", "plan"}) {
            beach("keeps 1+" + word + ";", 1, 8);
            beach("bears 1<" + word + ";", 1, 8);
        }
        for (String word : new String[] {"lung", "tide", "number", "knows 0", "ready 0", "strong"}) {
            beach("fades 1+" + word + ";", 1, 8);
        }
        beach("bears", 1, 5);
        beach("bears 1;", 1, 7);
        beach("bears 1<2<3;", 1, 9);
        beach("bears all<3;", 1, 9);
        beach("bears [all;", 1, 10);
        beach("bears (all);", 1, 7);
        beach("bears ([1]);", 1, 7);
        beach("bears all all;", 1, 10);
        beach("bears 1=1and all;", 1, 9);
        beach("bears not1=1;", 1, 9);
        beach("bears all and;", 1, 13);
        beach("bears 1<not;", 1, 8);
    }

    private static void noSuchNumber() {
        beach("idea i depth 10", 2, 13);
        beach("idea i depth 0010;", 2, 13);
        beach("idea i depth 9999x", 2, 13);
        beach("bather b lung 10 wits 1;", 2, 14);
        beach("bather b lung 9 wits 10;", 2, 21);
        beach("tide 9999;", 0, -1);
        beach("squall 101;", 2, 7);
        beach("squall 100;", 0, -1);
    }

    private static void noSuchName() {
        behind(I, "idea i", 3, 5);
        behind(I, "bather i lung 1 wits 1;", 3, 7);
        behind(IB, "idea b depth 1;", 3, 5);
        behind(IB, "bather b lung 1 wits 1;", 3, 7);
        behind(I, "need x", 3, 5);
        behind(I, "need x1", 3, 5);
        behind(I, "need all for i;", 1, 5);
        behind(I, "need i for x;", 3, 11);
        behind(IJ, "need j for i;", 3, 11);
        behind(IJ, "need i for i;", 3, 11);
        behind(IJ + "need i for j;", "need i for j;", 3, 11);
        behind(IB, "need b for i;", 3, 5);
        behind(IB, "need i for b;", 3, 11);
        behind(IB, "plan i in i;", 3, 5);
        behind(IB, "plan b in b;", 3, 10);
        behind(IB, "plan c in i;", 3, 5);
        behind(IB, "plan b in c;", 3, 10);
        behind(IB, "plan bbbbbbb in i;", 1, 11);
        behind("", "plan b in i;", 3, 5);
    }

    private static void tooDeep() {
        beach("bears not not not not not not not all;", 4, 30);
        beach("bears [[[[[[[all]]]]]]];", 4, 12);
        beach("bears (((((((1)))))))=1;", 4, 12);
        beach("bears [[[not((1+(1)))=1]]];", 4, 16);
        beach("bears [[[not not[1=(1)]]]];", 4, 19);
        beach("tide min(min(min(min(min(min(1,1),1),1),1),1),1);", 0, -1);
        beach("tide min(max(min(max(min(max(1,min(1,1)),1),1),1),1),1);", 4, 34);
        beach("bears not(1)=1 and not(1)=1 and not(1)=1 and not(1)=1;", 0, -1);
        beach("bears not[[[[[not", 4, 14);
        beach("bears (((((([", 1, 12);
        ask("first not not not not not not not all", 4, 30);
        ask("total knows ready knows ready knows ready knows 0", 4, 42);
        ask("total knows knows knows knows knows knows(1)", 4, 41);
        ask("total knows(knows(knows 0))+knows(knows(knows 0))", 0, -1);
        ask("total knows(knows(knows(0)))", 0, -1);
        ask("total knows(knows(knows(knows 0)))", 4, 24);
    }

    private static void tooMany() {
        String ideas = "";
        String bathers = "";
        for (int k = 0; k < 8; k++) {
            ideas += "idea i" + (char) ('a' + k) + " depth 0;";
            bathers += k < 6 ? "bather b" + (char) ('a' + k) + " lung 0 wits 0;" : "";
        }
        behind(ideas, " idea x", 5, 1);
        behind(ideas, "ideas", 1, 0);
        behind(ideas, "idea1", 5, 0);
        behind(bathers, "bather 1", 5, 0);
        String needs = "";
        int told = 0;
        for (int j = 1; j < 8 && told < 16; j++) {
            for (int i = 0; i < j && told < 16; i++, told++) {
                needs += "need i" + (char) ('a' + i) + " for i" + (char) ('a' + j) + ";";
            }
        }
        behind(ideas + needs, "need x", 5, 0);
        behind(IB + times(16, "plan b in i;"), "plan", 5, 0);
        behind("tide 1;", "tide 1;", 5, 0);
        behind("keeps 1;", "\nkeeps 1;", 5, 1);
        behind("fades 1;", "fades", 5, 0);
        behind("bears all;", "bears x", 5, 0);
        behind(times(60, "squall 1;"), "squall 1;", 5, 0);
        behind(times(60, "squall 1;"), "  ?", 5, 2);
        behind(times(60, "squall 1;"), ";", 5, 0);
        beach(times(59, "squall 1;") + "squall 1 squall 1;", 1, 59 * 9 + 9);
    }

    private static void noSuchQuestion() {
        ask("", 1, 0);
        ask("  ", 1, 2);
        ask("all", 1, 0);
        ask("firsts all", 1, 0);
        ask("first", 1, 5);
        ask("first 1", 1, 7);
        ask("total all", 1, 6);
        ask("total1", 1, 5);
        ask("often all;", 1, 9);
        ask("often all x", 1, 10);
        ask("total 1 2", 1, 8);
        ask("most 1<2", 1, 6);
        ask("least depth", 1, 6);
        ask("least 1+strength", 1, 8);
        ask("least rooted", 1, 6);
        ask("last strange=1", 1, 5);
        ask("total knows", 1, 11);
        ask("total knows+1", 1, 11);
        ask("total knows1", 1, 11);
        ask("total ready all", 1, 12);
        ask("total 12345", 1, 10);
    }

    public static void main(String[] args) {
        goodTexts();
        noSuchText();
        noSuchFormula();
        noSuchNumber();
        noSuchName();
        tooDeep();
        tooMany();
        noSuchQuestion();
        Asked.end();
    }
}
