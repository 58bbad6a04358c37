import java.math.BigInteger;
import java.util.ArrayList;
import java.util.Collections;
import java.util.List;

/**
 * What is said and done, foretold, bet, planned: each sentence of the document that names a bound, or which of several
 * is the answer, by itself; right below it, at it, right above it. (What is refused for its numbers: RefusalTest.)
 */
public final class BoundsTest {
    private static final int NONE = -1, UNKNOWN = -2, OUTSIDE = -3, NOT = -4, FULL = -5;
    private static final int LEAST = Integer.MIN_VALUE, MOST = Integer.MAX_VALUE;
    private static String sentence = "";
    private static int sentences = 0;
    private static int wrong = 0;

    private static void says(String words) {
        sentence = words;
        sentences++;
    }

    private static void due(String call, int got, int want) {
        if (got != want) {
            wrong++;
            if (wrong <= 40) System.out.println("\"" + sentence + "\": " + call + " answered " + got + ", due is " + want);
        }
    }

    private static NeverBelieved told(String... texts) {
        NeverBelieved x = new NeverBelieved();
        for (String text : texts) {
            for (int i = 0; i < text.length(); i++) x.write(text.charAt(i));
            if (x.city() < 1) due("city() of '" + text + "'", NOT, 1);
        }
        return x;
    }

    private static String times(String clause, int n) {
        return String.join(";", Collections.nCopies(n, clause));
    }

    private static void beliefs(NeverBelieved x, int fact, int... want) {
        for (int p = 0; p < want.length; p++) due("belief(" + p + ", " + fact + ")", x.belief(p, fact), want[p]);
    }

    // ---- SUM, kinds

    private static void sums() {
        says("SUM is the WORTHS of all GOOD FACTS that are TRUE, less those of all BAD ones that are; and 9999");
        String[] kinds = {"good 40 1", "good 40 0", "bad 40 1", "bad 40 0", "good 0 1", "bad 0 1"};
        int[] sums = {240, 0, -240, 0, 0, 0};
        for (int i = 0; i < kinds.length; i++) {
            NeverBelieved x = told(times(kinds[i], 6));
            due("count(4)", x.count(4), 9999 + sums[i]);
            due("coming(1, 1)", x.coming(1, 1), 9999 + sums[i]);
            due("best(0)", x.best(0), 9999 + sums[i]);
            due("plan(2, 0)", x.plan(2, 0), 9999 + sums[i]);
            due("night()", x.night(), 9999 + sums[i]);
            due("count(5)", x.count(5), kinds[i].endsWith("1") ? 63 : 0);
        }
        due("of a new object", new NeverBelieved().count(4), 9999);
        due("mixed", told("good 40 1;bad 39 1;good 2 0;bad 1 0").count(4), 9999 + 1);
    }

    private static void kinds() {
        says("KINDS of PEOPLE are over one another; NOT: he is none such");
        NeverBelieved x = told("good 1 1;doubter 0 0 0 0;child 0 0 0 0;interpreter 0 0 0 0;knower 0 0 0 0 0;knower 0 0 0 0 1");
        int[][] as = {{0, 0, NOT, NOT, NOT}, {1, NOT, 1, NOT, NOT}, {0, 0, NOT, NOT, 0}, {0, 0, NOT, 0, NOT}, {1, 1, NOT, 1, NOT}};
        for (int p = 0; p < 5; p++) {
            for (int kind = 0; kind < 5; kind++) due("as(" + p + ", " + kind + ")", x.as(p, kind), as[p][kind]);
            due("as(" + p + ", -1)", x.as(p, -1), OUTSIDE);
            due("as(" + p + ", 5)", x.as(p, 5), OUTSIDE);
        }
        due("as(5, 5)", x.as(5, 5), UNKNOWN);
        says("a KNOWER BELIEVES it, if his DEPTH is odd, else DOUBTS it");
        for (int d = 0; d <= 3; d++) {
            NeverBelieved y = told("good 1 1;knower 0 0 0 0 " + d);
            due("as of DEPTH " + d, y.as(0, 3), d % 2);
            due("say to DEPTH " + d, y.say(1, 0, 0, 1, 0, 0), 1);
            due("belief of DEPTH " + d, y.belief(0, 0), d % 2);
        }
        says("KINDS of SENTENCES; of how many FACTS it tells; NOT: it is none such");
        int[][] sayings = {{1, 1, NOT, NOT, NOT, NOT, NOT}, {2, NOT, NOT, 2, 2, NOT, NOT}, {2, NOT, NOT, 2, NOT, 2, NOT},
            {2, NOT, NOT, 2, NOT, 2, 2}, {1, 1, 1, NOT, NOT, NOT, NOT}};
        for (int s = 0; s < 5; s++) {
            for (int kind = 0; kind < 7; kind++) due("sayingAs(" + s + ", " + kind + ")", x.sayingAs(s, kind), sayings[s][kind]);
        }
    }

    // ---- sentences said

    private static void truths() {
        says("IS, BOTH, EITHER (or both), IF: SO as FACTS are now");
        for (int now = 0; now < 4; now++) {
            NeverBelieved x = told("good 1 " + (now & 1) + ";good 1 " + (now >> 1));
            for (int b = 0; b < 2; b++) {
                for (int c = 0; c < 2; c++) {
                    boolean first = (now & 1) == b, second = now >> 1 == c;
                    due("IS", x.so(0, 0, b, LEAST, MOST), first ? 1 : 0);
                    due("BOTH", x.so(1, 0, b, 1, c), first && second ? 1 : 0);
                    due("EITHER", x.so(2, 0, b, 1, c), first || second ? 1 : 0);
                    due("IF", x.so(3, 0, b, 1, c), !first || second ? 1 : 0);
                    due("SHALL, nobody hears it", x.so(4, 0, b, MOST, LEAST), first ? 1 : 0);
                    due("BOTH, the other way round", x.so(1, 1, c, 0, b), first && second ? 1 : 0);
                    due("IF, the other way round", x.so(3, 1, c, 0, b), !second || first ? 1 : 0);
                }
            }
        }
        says("so(), SHALL: said to all");
        NeverBelieved x = told("good 9 0;child 0 1 0 1;doubter 0 1 0 0");
        due("the child alone would", x.say(1, 4, 0, 1, 0, 0), 1);
        x = told("good 9 0;doubter 0 0 0 1;doubter 0 0 0 0");
        due("said to all, the last undoes it", x.so(4, 0, 1, 0, 0), 0);
        due("said to the first, it is so", x.say(1, 4, 0, 1, 0, 0), 1);
        x = told("good 9 0;interpreter 0 1 0 0;child 0 1 0 1");
        due("interpreter and child", x.so(4, 0, 1, 0, 0), 1);
    }

    private static void sets() {
        says("said to a set of PEOPLE (by bits, one at least); OUTSIDE: the set (0, one who is not there)");
        for (int people = 0; people <= 5; people++) {
            String text = "good 1 1" + (people == 0 ? "" : ";" + times("child 0 0 0 0", people));
            for (int set = -2; set <= 65; set++) {
                boolean fits = set >= 1 && set < 1 << people;
                NeverBelieved x = told(text);
                due("say(" + set + ", ..) to " + people, x.say(set, 0, 0, 1, 0, 0), fits ? set : OUTSIDE);
                due("how many believe", x.count(6), fits ? Integer.bitCount(set) : 0);
                due("how many can be undone", x.count(8), fits ? 1 : 0);
            }
            for (int set : new int[] {LEAST, LEAST + 1, MOST, MOST - 1}) due("say", told(text).say(set, 0, 0, 1, 0, 0), OUTSIDE);
        }
        says("OUTSIDE: the set; then as in so(); NOT: it is not SO");
        NeverBelieved x = told("good 1 1;good 1 0;child 0 0 0 0");
        due("set ahead of kind", x.say(0, 5, 0, 1, 0, 0), OUTSIDE);
        due("set ahead of facts", x.say(2, 0, 2, 1, 0, 0), OUTSIDE);
        due("kind ahead of facts", x.say(1, 5, 2, 1, 2, 0), OUTSIDE);
        due("facts ahead of bits", x.say(1, 1, 0, 2, 2, 2), UNKNOWN);
        due("g is f ahead of bits", x.say(1, 1, 1, 2, 1, 2), UNKNOWN);
        due("bits ahead of what is not so", x.say(1, 1, 0, 0, 1, 2), OUTSIDE);
        due("not so", x.say(1, 1, 0, 0, 1, 0), NOT);
        due("nothing was said", x.count(8) + x.count(6), 0);
    }

    private static void interpreters() {
        says("If an INTERPRETER is in the set, all PEOPLE that are not in it BELIEVE it, too (those in it as told)");
        String text = "good 1 1;doubter 0 0 0 0;interpreter 0 0 0 0;interpreter 0 0 0 0;knower 0 0 0 0 2;child 0 0 0 0";
        for (int set = 1; set < 32; set++) {
            NeverBelieved x = told(text);
            boolean spreads = (set & 6) != 0;
            due("say(" + set + ", ..)", x.say(set, 0, 0, 1, 0, 0), spreads ? 31 : set);
            for (int p = 0; p < 5; p++) {
                boolean in = (set >> p & 1) == 1;
                due("said to " + set + ", belief(" + p + ", 0)", x.belief(p, 0), in ? (p == 4 ? 1 : 0) : spreads ? 1 : NONE);
            }
        }
    }

    /** What one who starts from what he believes of two facts (NONE, 0, 1) holds of them by a sentence. */
    private static int[] held(int kind, boolean believes, int[] mind, int b, int c) {
        int[] then = mind.clone();
        if (kind == 0 || kind == 4) {
            then[0] = believes ? b : 1 - b;
        } else if (kind == 1 && believes) {
            then[0] = b;
            then[1] = c;
        } else if (kind == 2 && !believes) {
            then[0] = 1 - b;
            then[1] = 1 - c;
        } else if (kind == 3 && !believes) {
            then[0] = b;
            then[1] = 1 - c;
        } else if (kind == 1) {
            if (mind[0] == b) then[1] = 1 - c;
            else if (mind[1] == c) then[0] = 1 - b;
        } else if (kind == 2) {
            if (mind[0] == 1 - b) then[1] = c;
            else if (mind[1] == 1 - c) then[0] = b;
        } else {
            if (mind[0] == b) then[1] = c;
            else if (mind[1] == 1 - c) then[0] = 1 - b;
        }
        return then;
    }

    /** From every mind, with facts 0 and 1 as they may be by then, every sentence of them. */
    private static void mindsAndSentences(boolean believes) {
        for (int first = NONE; first <= 1; first++) {
            for (int second = NONE; second <= 1; second++) {
                for (int now = 0; now < 4; now++) {
                    for (int kind = 0; kind < 4; kind++) {
                        for (int bits = 0; bits < 4; bits++) heardBy(believes, new int[] {first, second}, now, kind, bits);
                    }
                }
            }
        }
    }

    /** Facts are told as the one is to hold them, then turned by causes in a night: what he believes need not be so. */
    private static void heardBy(boolean believes, int[] mind, int now, int kind, int bits) {
        int[] told = new int[2];
        for (int f = 0; f < 2; f++) told[f] = mind[f] == NONE ? 0 : believes ? mind[f] : 1 - mind[f];
        NeverBelieved x = told("good 1 " + told[0] + ";good 1 " + told[1] + ";good 1 0;" + (believes ? "child" : "doubter")
                + " 2 0 2 0;cause 0 " + told[0] + " 0 " + (now & 1) + ";cause 1 " + told[1] + " 1 " + (now >> 1));
        for (int f = 0; f < 2; f++) {
            if (mind[f] != NONE) x.say(1, 0, f, told[f], 0, 0);
        }
        x.night();
        due("what is true then", x.count(5), now);
        int b = bits & 1, c = bits >> 1;
        if (x.belief(0, 0) != mind[0] || x.belief(0, 1) != mind[1]) due("the mind aimed at", 0, 1);
        int so = x.so(kind, 0, b, 1, c);
        int[] then = so == 1 ? held(kind, believes, mind, b, c) : mind;
        int answer = so == 0 ? NOT : then[0] == mind[0] && then[1] == mind[1] ? 0 : 1;
        String call = (believes ? "believed" : "doubted") + " say(1, " + kind + ", 0, " + b + ", 1, " + c + ") from " + mind[0] + ", " + mind[1];
        due(call, x.say(1, kind, 0, b, 1, c), answer);
        for (int f = 0; f < 2; f++) due(call + ": belief of " + f, x.belief(0, f), then[f]);
    }

    private static void holding() {
        says("Who BELIEVES it holds by IS .. ; by EITHER, IF: .. else .. else nothing");
        mindsAndSentences(true);
        says("Who DOUBTS it holds by IS .. ; by BOTH: .. else .. else nothing");
        mindsAndSentences(false);
    }

    // ---- nights, what is undone, kept

    private static void nights() {
        says("A NIGHT: each of PEOPLE, by his number, then each CAUSE, by its number, if it is so by then");
        NeverBelieved x = told("good 1 1;good 1 0;child 0 1 1 1;child 0 1 1 0");
        x.say(3, 0, 0, 1, 0, 0);
        x.night();
        due("the later deed stays", x.fact(1, 2), 0);
        due("chain in order", told("good 1 1;good 1 0;good 1 0;cause 0 1 1 1;cause 1 1 2 1").coming(1, 0), 7);
        due("chain against the order", told("good 1 1;good 1 0;good 1 0;cause 1 1 2 1;cause 0 1 1 1").coming(1, 0), 3);
        says("if he BELIEVES so: not, if he believes nothing of it, or the contrary");
        x = told("good 1 1;good 1 0;child 0 0 1 1;doubter 0 1 1 1;child 1 0 0 0");
        due("nothing is believed", x.coming(1, 0), 1);
        x.say(3, 0, 0, 1, 0, 0);
        due("the contrary is believed", x.coming(1, 0), 1);
        says("Then the next DAY comes. What they BELIEVE stays");
        due("night()", x.night(), 10000);
        due("DAY", x.count(3), 1);
        beliefs(x, 0, 1, 0, NONE);
        says("FULL: it is DAY 999");
        NeverBelieved y = told("good 5 1;child 0 1 0 0");
        for (int n = 1; n <= 998; n++) y.night();
        due("DAY", y.count(3), 998);
        due("night() of DAY 998", y.night(), 10004);
        y.say(1, 0, 0, 1, 0, 0);
        for (int n = 0; n < 2; n++) due("night() of DAY 999", y.night(), FULL);
        due("DAY", y.count(3), 999);
        due("count(8)", y.count(8), 8);
        due("the fact", y.fact(0, 2), 1);
        due("coming(1, 0) of DAY 999", y.coming(1, 0), 0);
        due("undo() of what was said", y.undo(), 7);
        due("undo() of the last night", y.undo(), 6);
        due("DAY", y.count(3), 998);
    }

    private static void undone() {
        says("The latest say(), night() is undone (the last 8 can be): how many can be undone yet. NOT: none");
        for (int done = 0; done <= 20; done++) {
            NeverBelieved x = told("good 1 1;child 0 1 0 0");
            for (int n = 0; n < done; n++) x.night();
            int can = Math.min(done, 8);
            due("count(8) of " + done, x.count(8), can);
            for (int n = can - 1; n >= 0; n--) due("undo() of " + done, x.undo(), n);
            for (int n = 0; n < 2; n++) due("undo() of none", x.undo(), NOT);
            due("DAY", x.count(3), done - can);
        }
        says("the places of the last 8 go round");
        NeverBelieved x = told("good 1 1;good 1 0;child 0 1 0 0;cause 0 1 1 1;cause 0 0 1 0;cause 1 1 0 0;cause 1 0 0 1");
        List<int[]> past = new ArrayList<>();
        int can = 0;
        for (int step = 0; step < 100; step++) {
            if (step % 7 < 5) {
                past.add(new int[] {x.count(3), x.count(5), x.count(6)});
                if (step % 7 == 2) x.say(1, 0, 0, x.fact(0, 2), 0, 0);
                else x.night();
                can = Math.min(can + 1, 8);
            } else {
                due("undo()", x.undo(), --can);
                int[] was = past.remove(past.size() - 1);
                for (int i = 0; i < 3; i++) due("count(" + (i == 0 ? 3 : i == 1 ? 5 : 6) + ")", x.count(i == 0 ? 3 : i == 1 ? 5 : 6), was[i]);
            }
        }
        says("say() that moves nobody is undone, too; what is refused, kept, bet, written is not");
        NeverBelieved y = told("good 1 1;child 0 1 0 0");
        y.say(1, 0, 0, 1, 0, 0);
        due("say() again", y.say(1, 0, 0, 1, 0, 0), 0);
        y.say(1, 0, 0, 0, 0, 0);
        y.keep(0);
        y.bet(0, 1);
        y.write('x');
        due("count(8)", y.count(8), 2);
        due("undo()", y.undo(), 1);
        due("belief(0, 0)", y.belief(0, 0), 1);
        due("undo()", y.undo(), 0);
        due("belief(0, 0)", y.belief(0, 0), NONE);
        due("bets", y.count(7), 1);
        due("letters", y.count(9), 1);
    }

    private static void kept() {
        says("FACTS, what they BELIEVE, the DAY are kept (k 0, 1)");
        NeverBelieved x = told("good 1 1;child 0 1 0 0");
        due("keep(0)", x.keep(0), 0);
        x.say(1, 0, 0, 1, 0, 0);
        x.night();
        due("keep(1)", x.keep(1), 1);
        x.night();
        due("keep changes nothing that can be undone", x.count(8), 3);
        due("back(0)", x.back(0), 0);
        due("fact(0, 2)", x.fact(0, 2), 1);
        due("belief(0, 0)", x.belief(0, 0), NONE);
        due("back(1)", x.back(1), 1);
        due("fact(0, 2)", x.fact(0, 2), 0);
        due("belief(0, 0)", x.belief(0, 0), 1);
        due("keep(0) over what was kept", x.keep(0), 1);
        x.night();
        due("back(0)", x.back(0), 1);
        says("nothing can be undone");
        x.night();
        x.night();
        due("count(8)", x.count(8), 2);
        due("back(1)", x.back(1), 1);
        due("count(8)", x.count(8), 0);
        due("undo()", x.undo(), NOT);
        says("NOT: nothing was kept since the last text");
        for (int k = 0; k < 2; k++) {
            NeverBelieved y = told("good 1 1");
            due("back(" + k + ")", y.back(k), NOT);
            y.keep(1 - k);
            due("back(" + k + ") where the other is kept", y.back(k), NOT);
            y.keep(k);
            y.night();
            due("back(" + k + ")", y.back(k), 0);
            y.write('?');
            due("city() of a fault", y.city(), NOT);
            due("back(" + k + ") behind a text that was refused", y.back(k), 0);
            y.erase();
            for (char letter : "still".toCharArray()) y.write(letter);
            y.city();
            due("back(" + k + ") behind a text", y.back(k), NOT);
        }
    }

    // ---- foretold

    private static void coming() {
        says("behind n NIGHTS (1 .. 20)");
        NeverBelieved x = told("good 7 0;bad 2 0;cause 0 1 1 1;cause 0 0 1 0;cause 1 1 0 0;cause 1 0 0 1");
        int[] bits = {1, 2};
        for (int n = 1; n <= 20; n++) {
            due("coming(" + n + ", 0)", x.coming(n, 0), bits[(n - 1) % 2]);
            due("coming(" + n + ", 1)", x.coming(n, 1), 9999 + (n % 2 == 1 ? 7 : -2));
        }
        for (int n : new int[] {LEAST, -1, 0, 21, 22, MOST}) due("coming(" + n + ", 0)", x.coming(n, 0), OUTSIDE);
        due("coming(20, 0) of nothing", new NeverBelieved().coming(20, 0), 0);
    }

    private static void bestIs(NeverBelieved x, int sum, int number, int set) {
        due("best(0)", x.best(0), sum + 9999);
        due("best(1)", x.best(1), number);
        due("best(2)", x.best(2), set);
    }

    private static void best() {
        says("BEST: of several SILENCE (NONE; the set 0)");
        bestIs(new NeverBelieved(), 0, NONE, 0);
        bestIs(told("good 3 1"), 3, NONE, 0);
        bestIs(told("good 0 0;child 0 0 0 0"), 0, NONE, 0);
        bestIs(told("good 3 1;good 0 0;doubter 0 0 1 1"), 3, NONE, 0);
        bestIs(told("good 3 1;bad 1 0;doubter 0 0 1 1"), 3, NONE, 0);
        bestIs(told("good 3 1;good 1 0;doubter 0 0 1 1"), 4, 100, 1);
        says("else the first SENTENCE");
        // By 10000 KIND: IS ahead of EITHER, IF, SHALL, each of which the doubter would do it by, too.
        bestIs(told("good 0 1;good 9 0;doubter 0 0 1 1"), 9, 100, 1);
        // By 1000 f: two deeds do the same.
        bestIs(told("good 0 1;good 0 0;good 9 0;doubter 1 1 2 1;doubter 0 0 2 1"), 9, 100, 2);
        bestIs(told("good 0 1;good 0 0;good 9 0;doubter 0 0 2 1;doubter 1 1 2 1"), 9, 100, 1);
        // By 100 b: SHALL 0 and SHALL 1 can both be so, said to one or to another.
        bestIs(told("good 0 0;good 9 0;knower 0 1 0 0 0;child 0 1 0 1;cause 0 1 1 1"), 9, 40100, 2);
        says("all SENTENCES: of each FACT, IS and SHALL, first to last");
        for (int f = 0; f < 6; f++) {
            for (int b = 0; b < 2; b++) {
                singles(f, b);
            }
        }
        says("SUM behind this NIGHT: with the deeds of those who believe already");
        NeverBelieved x = told("good 0 1;good 9 0;good 4 0;child 0 1 1 1;doubter 0 0 2 1");
        x.say(1, 0, 0, 1, 0, 0);
        bestIs(x, 13, 100, 2);
        x.say(2, 0, 0, 1, 0, 0);
        bestIs(x, 13, NONE, 0);
        says("the least set of it");
        for (int p = 0; p < 5; p++) {
            String others = "doubter 1 1 1 1";
            String people = (p == 0 ? "" : times(others, p) + ";") + "doubter 0 0 1 1" + (p == 4 ? "" : ";" + times(others, 4 - p));
            bestIs(told("good 0 1;good 9 0;" + people), 9, 100, 1 << p);
        }
        bestIs(told("good 0 1;good 9 0;" + times("doubter 0 0 1 1", 5)), 9, 100, 1);
        bestIs(told("good 0 1;good 9 0;good 5 0;child 0 0 1 1;doubter 0 0 1 1;child 1 1 1 1;doubter 0 0 2 1"), 14, 100, 10);
        // The interpreter is told, so that the children hear of it; to them all it would be said by 7.
        bestIs(told("good 1 1;good 9 0;good 5 0;interpreter 2 1 0 0;doubter 0 1 1 1;doubter 0 1 2 1"), 15, 100, 1);
    }

    /** Of 6 facts only one, f, that is b, is of use: a doubter does by its contrary, a child makes it the contrary. */
    private static void singles(int f, int b) {
        StringBuilder facts = new StringBuilder();
        for (int k = 0; k < 6; k++) facts.append(k == 0 ? "" : ";").append(k == f ? (b == 0 ? "good 9 " : "bad 9 ") + b : "good 0 0");
        NeverBelieved x = told(facts + ";doubter " + f + " " + (1 - b) + " " + f + " " + (1 - b));
        bestIs(x, b == 0 ? 9 : 0, 1000 * f + 100 * b, 1);
        planIs(x, 1, b == 0 ? 9 : 0, 1000 * f + 100 * b, 0);
        due("plan(2, 0)", x.plan(2, 0), 9999 + (b == 0 ? 9 : 0));
        x = told(facts + ";child " + f + " " + (1 - b) + " " + f + " " + (1 - b));
        bestIs(x, b == 0 ? 9 : 0, 40000 + 1000 * f + 100 * (1 - b), 1);
        planIs(x, 1, b == 0 ? 9 : 0, 40000 + 1000 * f + 100 * (1 - b), 0);
        due("plan(2, 0)", x.plan(2, 0), 9999 + (b == 0 ? 9 : 0));
        due("said(0, 1, 1)", x.said(0, 1, 1), 40000 + 1000 * f + 100 * (1 - b));
    }

    private static void empty() {
        says("EMPTY: nobody BELIEVES anything that he did not: how many; the first (NONE)");
        NeverBelieved x = told("good 1 1;child 0 0 0 0");
        due("none: how many", x.empty(0, 0), 0);
        due("none: the first", x.empty(0, 1), NONE);
        x.say(1, 0, 0, 1, 0, 0);
        due("IS and SHALL: how many", x.empty(0, 0), 2);
        due("IS and SHALL: the first", x.empty(0, 1), 100);
        says("the first, by its number 0: not NONE");
        x = told("good 1 0;child 0 1 0 0");
        x.say(1, 0, 0, 0, 0, 0);
        due("the first", x.empty(0, 1), 0);
        says("nobody: nor those who hear it by an INTERPRETER");
        x = told("good 1 1;interpreter 0 1 0 0;child 0 0 0 0;doubter 0 0 0 1");
        x.say(1, 0, 0, 1, 0, 0);
        due("the child and the doubter have heard it", x.empty(0, 0), 2);
        x.say(4, 0, 0, 1, 0, 0);
        due("the doubter doubts it again", x.empty(0, 0), 0);
        due("to the child himself", x.empty(1, 0), 2);
        due("to the doubter himself", x.empty(2, 0), 2);
        says("the most that there can be of them: 6 facts");
        x = told(times("good 1 1", 6) + ";doubter 0 0 0 0");
        due("BOTH of any two", x.empty(0, 0), 30);
        due("the first", x.empty(0, 1), 10111);
        x = told(times("good 1 1", 6) + ";child 0 0 0 0");
        due("EITHER, IF of any two: 3 of 4 are so", x.empty(0, 0), 180);
        due("the first", x.empty(0, 1), 20011);
    }

    private static void said() {
        says("SAID: he would do his DEED (1), or would not (0): how many; the first (NONE)");
        NeverBelieved x = told("good 1 0;doubter 0 1 0 1");
        due("would: how many", x.said(0, 1, 0), 1);
        due("would: the first", x.said(0, 1, 1), 0);
        due("would not: how many", x.said(0, 0, 0), 0);
        due("would not: the first", x.said(0, 0, 1), NONE);
        x = told("good 1 0;doubter 0 0 0 0");
        due("would: how many", x.said(0, 1, 0), 0);
        due("would: the first", x.said(0, 1, 1), NONE);
        due("would not: how many", x.said(0, 0, 0), 2);
        due("would not: the first", x.said(0, 0, 1), 0);
        says("said to him alone: what another would do does not matter");
        x = told("good 1 0;good 1 0;child 0 0 1 1;child 1 1 1 1");
        due("the second by SHALL", x.said(1, 1, 1), 41100);
        due("the first by IS", x.said(0, 1, 1), 0);
    }

    private static void rests() {
        says("RESTS: would be no more, did one of both otherwise: how many; the first");
        NeverBelieved x = told("good 0 0;good 5 0;child 0 1 1 1;child 0 1 1 1;doubter 0 0 1 1");
        due("either is enough: 1, 2, 3", x.rests(0, 1, 0, 1, 0), 3);
        due("the first of them", x.rests(0, 1, 0, 1, 1), 1);
        due("by the contrary: 0, 1, 2", x.rests(0, 1, 0, 0, 0), 3);
        due("the first of them", x.rests(0, 1, 0, 0, 1), 0);
        due("either way round: 0, 2, 3", x.rests(0, 2, 0, 1, 0), 3);
        due("the first of them", x.rests(0, 2, 0, 1, 1), 0);
        due("it is all one", x.rests(0, 1, 1, 1, 0), 4);
        due("the first of them", x.rests(0, 1, 1, 1, 1), 0);
        x = told("good 9 0;bad 5 0;child 0 1 0 1;child 0 1 1 1");
        due("one alone", x.rests(0, 1, 0, 1, 0), 1);
        due("2 times the first one's", x.rests(0, 1, 0, 1, 1), 2);
        due("and the second one's", x.rests(1, 0, 0, 1, 1), 1);
        due("both", x.rests(0, 1, 0, 0, 1), 1);
        says("nobody else hears it");
        x = told("good 0 0;good 9 0;interpreter 1 1 1 1;interpreter 1 1 1 1;child 0 1 1 1");
        due("by interpreters", x.rests(0, 1, 0, 1, 0), 4);
    }

    // ---- bets, plans, sieges

    private static void sureIs(NeverBelieved x, int much, int set) {
        due("sure(0)", x.sure(0), much);
        due("sure(1)", x.sure(1), set);
    }

    private static void bets() {
        says("BETS, 5 at most; for a PRICE (0 .. 99) one gets 100");
        NeverBelieved x = told("good 1 1;good 1 0");
        for (int n = 1; n <= 5; n++) due("bet(0, ..)", x.bet(0, n % 2 == 0 ? 0 : 99), n);
        due("a sixth", x.bet(0, 50), FULL);
        due("a sixth of no fact", x.bet(2, 50), UNKNOWN);
        due("a sixth of no price", x.bet(0, 100), OUTSIDE);
        sureIs(x, 203, 31);
        due("call()", x.call(), 5);
        due("call() of none", x.call(), 0);
        sureIs(x, 0, 0);
        due("bet(0, 0)", x.bet(0, 0), 1);
        sureIs(x, 100, 1);
        due("bet(0, 99)", x.bet(0, 99), 2);
        sureIs(x, 101, 3);
        says("none wins: 0, the empty one");
        sureIs(new NeverBelieved(), 0, 0);
        x = told("good 1 0");
        for (int n = 0; n < 5; n++) x.bet(0, n);
        sureIs(x, 0, 0);
        says("the least such set");
        x = told("good 1 1;good 1 0");
        x.bet(1, 0);
        x.bet(0, 30);
        x.bet(1, 0);
        x.bet(0, 30);
        sureIs(x, 140, 10);
        // One of two is true, whatever she says: 100 for both; each of them twice there is the same price for both pairs.
        x = told("good 1 1;good 1 0;doubter 0 0 0 0;cause 0 0 1 1");
        x.bet(0, 45);
        x.bet(1, 45);
        x.bet(1, 45);
        sureIs(x, 10, 3);
        says("BETS stay through nights, undo() and back()");
        x.keep(0);
        x.night();
        x.undo();
        x.back(0);
        due("count(7)", x.count(7), 3);
        says("all FACTS are TRUE, or none is");
        x = told(times("good 1 1", 6));
        for (int n = 1; n <= 5; n++) {
            x.bet(n, 90 + n);
            sureIs(x, 10 * n - n * (n + 1) / 2, (1 << n) - 1);
        }
        x = told(times("good 1 0", 6));
        for (int n = 1; n <= 5; n++) x.bet(n, 0);
        sureIs(x, 0, 0);
        says("whatever SENTENCE: the first of all, 0, said to the interpreter, spoils what no other does");
        x = told("good 0 0;good 1 1;good 0 0;interpreter 0 1 0 1;child 0 0 2 1;cause 0 0 2 0;cause 2 1 1 0");
        x.bet(1, 1);
        sureIs(x, 0, 0);
        says("whichever one alone, or SILENCE (by the worst of these)");
        x = told("good 1 1;child 0 1 0 0");
        x.bet(0, 1);
        sureIs(x, 0, 0);
        x = told("good 1 1;good 1 0;good 1 0;interpreter 1 1 1 1;child 1 0 0 0");
        x.bet(0, 1);
        sureIs(x, 0, 0);
        x = told("good 1 1;good 1 1;good 1 1;doubter 0 0 2 0;doubter 1 0 2 0;cause 2 0 2 1");
        x.bet(2, 1);
        sureIs(x, 99, 1);
    }

    private static void planIs(NeverBelieved x, int d, int sum, int number, int one) {
        due("plan(" + d + ", 0)", x.plan(d, 0), sum + 9999);
        due("plan(" + d + ", 1)", x.plan(d, 1), number);
        due("plan(" + d + ", 2)", x.plan(d, 2), one);
    }

    private static void plans() {
        says("PLAN for d DAYS (1, 2): SILENCE, if that is as good (NONE; NONE)");
        for (int d = 1; d <= 2; d++) {
            planIs(new NeverBelieved(), d, 0, NONE, NONE);
            planIs(told("good 3 1"), d, 3, NONE, NONE);
            planIs(told("good 3 1;good 0 0;doubter 0 0 1 1"), d, 3, NONE, NONE);
            planIs(told("good 3 1;bad 1 0;doubter 0 0 1 1"), d, 3, NONE, NONE);
        }
        planIs(told("good 3 1;good 1 0;doubter 0 0 1 1"), 1, 4, 100, 0);
        planIs(told("good 3 1;good 1 0;doubter 0 0 1 1"), 2, 4, NONE, NONE);
        says("else the first such SENTENCE, the least one to whom");
        planIs(told("good 0 1;good 9 0;doubter 1 0 1 0;doubter 0 0 1 1;doubter 0 0 1 1"), 1, 9, 100, 1);
        planIs(told("good 0 1;good 0 1;good 9 0;doubter 1 0 2 1;doubter 0 0 2 1"), 1, 9, 100, 1);
        planIs(told("good 0 1;good 9 0;good 8 0;doubter 0 0 1 1;doubter 0 0 2 1"), 2, 17, 100, 0);
        says("of KIND IS or SHALL, to one alone");
        planIs(told("good 0 1;good 9 0;good 8 0;doubter 0 0 1 1;doubter 0 0 2 1"), 1, 9, 100, 0);
        // BOTH would be doubted to nothing, EITHER would hold two at once: 17 in a day, but PLAN has no EITHER.
        NeverBelieved x = told("good 0 1;good 0 1;good 9 0;good 8 0;interpreter 0 0 2 1;child 1 0 3 1");
        due("best(0)", x.best(0), 9999 + 9);
        planIs(x, 1, 9, 100, 0);
        says("that is SO then: on the second DAY, by what the first brought");
        planIs(told("good 9 0;good 0 0;doubter 1 0 0 1;cause 1 0 1 1"), 1, 9, 41100, 0);
        planIs(told("good 9 0;good 0 0;child 1 1 0 1;cause 1 0 1 1"), 2, 9, NONE, NONE);
        says("the most SUM behind the last: not behind the first");
        planIs(told("bad 9 0;good 0 0;good 5 0;doubter 1 1 2 1;cause 2 1 0 1"), 1, 0, NONE, NONE);
        planIs(told("good 9 0;bad 5 0;good 0 0;doubter 2 1 1 1;cause 0 1 1 0;cause 1 1 0 1"), 1, 4, 2000, 0);
        planIs(told("good 9 0;bad 5 0;good 0 0;doubter 2 1 1 1;cause 0 1 1 0;cause 1 1 0 1"), 2, 9, 2000, 0);
    }

    /** DRAW for the k-th siege by z, found without any bound of 64 bits. */
    private static int draw(int z, int k) {
        BigInteger x = BigInteger.valueOf(z).multiply(BigInteger.valueOf(7919)).add(BigInteger.valueOf(6151L * k + 1));
        return x.multiply(x).mod(BigInteger.valueOf(65521)).intValue();
    }

    private static final int[] ZS = {0, 1, 2, 7, 8, 255, 256, 4096, 5000, 9998, 9999};

    private static void draws() {
        says("SIEGES by z (0 .. 9999), n of them (0 .. 9): FACT DRAW modulo how many there are is the contrary");
        for (int facts = 1; facts <= 6; facts++) {
            for (int bad = 0; bad < facts; bad++) {
                String text = (bad == 0 ? "" : times("good 0 0", bad) + ";") + "bad 1 0" + (bad == facts - 1 ? "" : ";" + times("good 0 1", facts - 1 - bad));
                NeverBelieved x = told(text);
                for (int z : ZS) {
                    int saved = 0;
                    for (int n = 0; n <= 9; n++) {
                        due("sieges(" + z + ", " + n + ", 0)", x.sieges(z, n, 0), saved);
                        if (draw(z, n) % facts != bad) saved++;
                    }
                }
            }
        }
    }

    private static void guesses() {
        says("With a GUESSER: all BELIEVE that FACT (DRAW by 8, cut) modulo how many is (DRAW by 64, cut) modulo 2");
        for (int facts = 2; facts <= 6; facts++) {
            for (int guess = 0; guess < 2 * facts; guess++) {
                NeverBelieved x = told("bad 1 1;" + times("good 0 0", facts - 1) + ";child 0 0 1 1;interpreter " + guess / 2 + " " + guess % 2 + " 0 0");
                for (int z : ZS) {
                    int saved = 0;
                    for (int n = 0; n <= 9; n++) {
                        due("sieges(" + z + ", " + n + ", 2)", x.sieges(z, n, 2), saved);
                        int draw = draw(z, n);
                        boolean guessed = draw / 8 % facts == guess / 2 && draw / 64 % 2 == guess % 2;
                        if (draw % facts == 0 || guessed) saved++;
                    }
                }
            }
        }
    }

    private static void sieges() {
        draws();
        guesses();
        says("SAVED is a city whose SUM is 0 or more then");
        for (int worth = 9; worth <= 11; worth++) {
            NeverBelieved x = told("bad 10 0;good " + worth + " 1;good 0 0");
            for (int z : ZS) {
                int turned = draw(z, 0) % 3;
                int sum = worth - (turned == 0 ? 10 : turned == 1 ? worth : 0);
                for (int how = 0; how < 3; how++) due("sieges(" + z + ", 1, " + how + ") of " + sum, x.sieges(z, 1, how), sum >= 0 ? 1 : 0);
            }
        }
        says("With a SEER: BEST, then a NIGHT");
        NeverBelieved x = told("bad 5 0;doubter 0 0 0 0");
        for (int n = 0; n <= 9; n++) {
            due("with none", x.sieges(9999, n, 0), 0);
            due("with a seer", x.sieges(9999, n, 1), n);
        }
        says("OUTSIDE; NOT: there are no FACTS");
        NeverBelieved none = new NeverBelieved();
        due("sieges(0, 0, 0)", none.sieges(0, 0, 0), NOT);
        due("sieges(9999, 9, 2)", none.sieges(9999, 9, 2), NOT);
        due("sieges(10000, 9, 2)", none.sieges(10000, 9, 2), OUTSIDE);
        due("sieges(9999, 10, 2)", none.sieges(9999, 10, 2), OUTSIDE);
        due("sieges(9999, 9, 3)", none.sieges(9999, 9, 3), OUTSIDE);
    }

    private static void counts() {
        says("6 how many things they all BELIEVE");
        NeverBelieved x = told(times("good 1 1", 6) + ";" + times("child 0 0 0 0", 5));
        for (int f = 0; f < 6; f++) {
            for (int p = 0; p < 5; p++) {
                due("count(6)", x.count(6), 5 * f + p);
                x.say(1 << p, 0, f, 1, 0, 0);
            }
        }
        due("count(6) of all", x.count(6), 30);
        says("5 FACTS that are TRUE, by bits");
        for (int bits = 0; bits < 64; bits++) {
            StringBuilder text = new StringBuilder("still");
            for (int f = 0; f < 6; f++) text.append(";good 1 ").append(bits >> f & 1);
            due("count(5)", told(text.toString()).count(5), bits);
        }
    }

    public static void main(String[] args) {
        sums();
        kinds();
        truths();
        sets();
        interpreters();
        holding();
        nights();
        undone();
        kept();
        coming();
        best();
        empty();
        said();
        rests();
        bets();
        plans();
        sieges();
        counts();
        System.out.println(sentences + " sentences on what is said, done, foretold, " + wrong + " answers are not as due");
        if (wrong != 0) System.exit(1);
    }
}
