/** Each promise by itself: ordinary inputs, the edges that the document names, wrong inputs; answers found by hand. */
public final class PromiseTest {
    private static final int NONE = -1, UNKNOWN = -2, OUTSIDE = -3, NOT = -4, FULL = -5;
    private static final int LEAST = Integer.MIN_VALUE, MOST = Integer.MAX_VALUE;
    private static int promise = 0;
    private static int wrong = 0;

    private static void due(String call, int got, int want) {
        if (got != want) {
            wrong++;
            System.out.println("promise " + promise + ": " + call + " answered " + got + ", due is " + want);
        }
    }

    private static void write(NeverBelieved x, String text) {
        for (int i = 0; i < text.length(); i++) x.write(text.charAt(i));
    }

    private static void tell(NeverBelieved x, String text) {
        x.erase();
        write(x, text);
        if (x.city() < 0) due("city() of " + text, NOT, 0);
    }

    private static NeverBelieved city(String text) {
        NeverBelieved x = new NeverBelieved();
        tell(x, text);
        return x;
    }

    private static String times(String clause, int n) {
        return String.join(";", java.util.Collections.nCopies(n, clause));
    }

    private static void p1New() {
        NeverBelieved x = new NeverBelieved();
        int[] counts = {0, 0, 0, 0, 9999, 0, 0, 0, 0, 0};
        for (int what = 0; what < counts.length; what++) due("count(" + what + ")", x.count(what), counts[what]);
        due("fact(0, 0)", x.fact(0, 0), UNKNOWN);
        due("one(0, 0)", x.one(0, 0), UNKNOWN);
        due("cause(0, 0)", x.cause(0, 0), UNKNOWN);
        due("back(0)", x.back(0), NOT);
        due("undo()", x.undo(), NOT);
    }

    private static void p2Write() {
        NeverBelieved x = new NeverBelieved();
        due("write(-1)", x.write(-1), OUTSIDE);
        due("write(256)", x.write(256), OUTSIDE);
        due("write(LEAST)", x.write(LEAST), OUTSIDE);
        due("write(MOST)", x.write(MOST), OUTSIDE);
        due("count(9)", x.count(9), 0);
        due("write(0)", x.write(0), 1);
        due("write(255)", x.write(255), 2);
        for (int n = 3; n <= 160; n++) due("write(32)", x.write(32), n);
        due("write(32) of a full text", x.write(32), FULL);
        due("write(256) of a full text", x.write(256), OUTSIDE);
        due("count(9)", x.count(9), 160);
    }

    private static void p3Erase() {
        NeverBelieved x = new NeverBelieved();
        due("erase()", x.erase(), 0);
        write(x, "good 1");
        due("erase()", x.erase(), 6);
        due("erase()", x.erase(), 0);
        due("write(32)", x.write(32), 1);
    }

    private static void faultOf(NeverBelieved x, String text, int place) {
        x.erase();
        write(x, text);
        due("fault() of '" + text + "'", x.fault(), place);
        due("fault() again", x.fault(), place);
        due("letters behind fault()", x.count(9), text.length());
    }

    private static void p4Fault() {
        NeverBelieved x = new NeverBelieved();
        faultOf(x, "", 0);
        faultOf(x, "   ", 3);
        faultOf(x, "city", NONE);
        faultOf(x, "still", NONE);
        faultOf(x, "  city  ;  still  ", NONE);
        faultOf(x, "city;", 5);
        faultOf(x, "city; ", 6);
        faultOf(x, ";", 0);
        faultOf(x, "city;;city", 5);
        faultOf(x, "City", 0);
        faultOf(x, "citya", 0);
        faultOf(x, "cit", 0);
        faultOf(x, "mity", 0);
        faultOf(x, "cityz", 0);
        faultOf(x, "citz", 0);
        faultOf(x, "7", 0);
        faultOf(x, "city x", 5);
        faultOf(x, "city 1", 5);
        faultOf(x, "still.", 5);
        faultOf(x, "good", 4);
        faultOf(x, "good ", 5);
        faultOf(x, "good 5", 6);
        faultOf(x, "good 5 1", NONE);
        faultOf(x, "good5 1", NONE);
        faultOf(x, "good 0 0;bad 40 1", NONE);
        faultOf(x, "good 41 1", 5);
        faultOf(x, "good 99 1", 5);
        faultOf(x, "good 05 01", NONE);
        faultOf(x, "good 005 1", 5);
        faultOf(x, "good 5 001", 7);
        faultOf(x, "good 99999999999 1", 5);
        faultOf(x, "good 5 2", 7);
        faultOf(x, "good 5 1 1", 9);
        faultOf(x, "good -5 1", 5);
        faultOf(x, "good five 1", 5);
        faultOf(x, "good 5;1", 6);
        faultOf(x, "good\t5 1", 4);
        faultOf(x, "good 5 1,bad 1 1", 8);
        faultOf(x, "good 5 1 bad 1 1", 9);
        faultOf(x, "good 5 1bad 1 1", 8);
        faultOf(x, "good 5 1" + (char) 228, 8);
        faultOf(x, "good 5 1;doubter 0 1 0 1;child 0 0 0 0;knower 0 1 0 1 3;interpreter 0 0 0 1;cause 0 0 0 0", NONE);
        faultOf(x, "good 5 1;doubter 0 1 1 0", 21);
        faultOf(x, "good 5 1;doubter 1 1 1 0", 17);
        faultOf(x, "good 5 1;doubter 0 2 1 0", 19);
        faultOf(x, "good 5 1;doubter 0 1 0 2", 23);
        faultOf(x, "good 5 1;child 0 1 0 1 1", 23);
        faultOf(x, "good 5 1;knower 0 1 0 1 4", 24);
        faultOf(x, "good 5 1;knower 0 1 0 1", 23);
        faultOf(x, "good 5 1;city;cause 0 0 0 0", 20);
        faultOf(x, "doubter 0 0 0 0;good 1 1", 8);
        String six = times("good 1 1", 6);
        faultOf(x, six, NONE);
        faultOf(x, six + ";bad 1 1", six.length() + 1);
        faultOf(x, six + ";good", six.length() + 1);
        faultOf(x, six + ";city;bad 1 1", NONE);
        String five = "good 1 1;" + times("child 0 0 0 0", 5);
        faultOf(x, five, NONE);
        faultOf(x, five + ";doubter 0 0 0 0", five.length() + 1);
        faultOf(x, five + ";knower 9", five.length() + 1);
        String causes = "good 1 1;" + times("cause 0 0 0 0", 6);
        faultOf(x, causes, NONE);
        faultOf(x, causes + ";cause 0 0 0 0", causes.length() + 1);
        faultOf(x, causes + ";still;cause 0 0 0 0", NONE);
        faultOf(x, "cause 0 0 0 0;" + causes, 6);
        faultOf(x, "city;" + five, NONE);
        faultOf(x, "city;" + causes, NONE);
        faultOf(x, "good 1 1;still;" + times("cause 0 0 0 0", 6), NONE);
        faultOf(x, times("still", 14), NONE);
        faultOf(x, times("still", 15), 83);
        faultOf(x, times("still", 14) + ";", 83);
        faultOf(x, times("still", 14) + " x", 84);
        tell(x, "good 1 1;good 1 1");
        faultOf(x, "cause 1 1 0 0", NONE);
        faultOf(x, "cause 2 1 0 0", 6);
        faultOf(x, "good 1 1;cause 2 1 0 0", NONE);
        faultOf(x, "city;cause 0 1 0 0", 11);
        faultOf(x, times("good 1 1", 5), 36);
    }

    private static void p5City() {
        NeverBelieved x = city("city;good 9 1;child 0 1 0 0;cause 0 1 0 0");
        due("count(9)", x.count(9), 0);
        x.keep(0);
        x.bet(0, 5);
        x.say(1, 0, 0, 1, 0, 0);
        x.night();
        due("fact(0, 2)", x.fact(0, 2), 0);
        write(x, "good 9");
        due("city() of a fault", x.city(), NOT);
        int[] unchanged = {1, 1, 1, 1, 9999, 0, 1, 1, 2, 6};
        for (int what = 0; what < unchanged.length; what++) due("count(" + what + ")", x.count(what), unchanged[what]);
        x.erase();
        write(x, "bad 3 1");
        due("city()", x.city(), 1);
        int[] begun = {2, 1, 1, 0, 9999 + 6, 3, 0, 0, 0, 0};
        for (int what = 0; what < begun.length; what++) due("count(" + what + ")", x.count(what), begun[what]);
        due("back(0)", x.back(0), NOT);
        due("undo()", x.undo(), NOT);
        write(x, "still;still");
        due("city()", x.city(), 2);
        due("count(2)", x.count(2), 0);
        due("count(0)", x.count(0), 2);
        write(x, "city");
        due("city()", x.city(), 1);
        due("count(0)", x.count(0), 0);
        due("count(1)", x.count(1), 0);
        write(x, times("still", 14));
        due("city()", x.city(), 14);
    }

    private static void p6Fact() {
        NeverBelieved x = city("good 40 0;bad 7 1");
        int[][] want = {{0, 40, 0}, {1, 7, 1}};
        for (int f = 0; f < 2; f++) {
            for (int what = 0; what < 3; what++) due("fact(" + f + ", " + what + ")", x.fact(f, what), want[f][what]);
        }
        due("fact(2, 0)", x.fact(2, 0), UNKNOWN);
        due("fact(-1, 0)", x.fact(-1, 0), UNKNOWN);
        due("fact(2, 9)", x.fact(2, 9), UNKNOWN);
        due("fact(0, 3)", x.fact(0, 3), OUTSIDE);
        due("fact(0, -1)", x.fact(0, -1), OUTSIDE);
        due("fact(MOST, LEAST)", x.fact(MOST, LEAST), UNKNOWN);
    }

    private static final String FIVE = "good 1 1;good 2 0;doubter 0 1 1 0;child 1 0 0 1;knower 1 1 1 1 2;knower 0 0 1 1 3;interpreter 0 1 0 1";

    private static void p7One() {
        NeverBelieved x = city(FIVE);
        int[][] want = {{0, 0, 1, 1, 0, 0}, {1, 1, 0, 0, 1, 0}, {2, 1, 1, 1, 1, 2}, {2, 0, 0, 1, 1, 3}, {3, 0, 1, 0, 1, 0}};
        for (int p = 0; p < 5; p++) {
            for (int what = 0; what < 6; what++) due("one(" + p + ", " + what + ")", x.one(p, what), want[p][what]);
        }
        due("one(5, 0)", x.one(5, 0), UNKNOWN);
        due("one(-1, 6)", x.one(-1, 6), UNKNOWN);
        due("one(0, 6)", x.one(0, 6), OUTSIDE);
        due("one(0, -1)", x.one(0, -1), OUTSIDE);
        tell(x, "city;good 1 1;knower 0 0 0 0 3");
        tell(x, "city;good 1 1;doubter 0 0 0 0");
        due("one(0, 5) where a knower was", x.one(0, 5), 0);
    }

    private static void p8Cause() {
        NeverBelieved x = city("good 1 1;good 2 0;cause 0 1 1 0;cause 1 0 0 1");
        int[][] want = {{0, 1, 1, 0}, {1, 0, 0, 1}};
        for (int k = 0; k < 2; k++) {
            for (int what = 0; what < 4; what++) due("cause(" + k + ", " + what + ")", x.cause(k, what), want[k][what]);
        }
        due("cause(2, 0)", x.cause(2, 0), UNKNOWN);
        due("cause(-1, 7)", x.cause(-1, 7), UNKNOWN);
        due("cause(0, 4)", x.cause(0, 4), OUTSIDE);
        due("cause(0, -1)", x.cause(0, -1), OUTSIDE);
        tell(x, "still");
        due("cause(0, 0)", x.cause(0, 0), UNKNOWN);
    }

    private static void p9Belief() {
        NeverBelieved x = city("good 1 1;good 2 0;doubter 0 1 1 0;child 1 0 0 1");
        due("belief(0, 0)", x.belief(0, 0), NONE);
        x.say(3, 0, 0, 1, 0, 0);
        due("belief(0, 0)", x.belief(0, 0), 0);
        due("belief(1, 0)", x.belief(1, 0), 1);
        due("belief(1, 1)", x.belief(1, 1), NONE);
        due("belief(2, 0)", x.belief(2, 0), UNKNOWN);
        due("belief(0, 2)", x.belief(0, 2), UNKNOWN);
        due("belief(-1, 0)", x.belief(-1, 0), UNKNOWN);
        due("belief(0, -1)", x.belief(0, -1), UNKNOWN);
    }

    private static void p10As() {
        NeverBelieved x = city(FIVE);
        int[][] want = {{0, 0, NOT, NOT, NOT}, {1, NOT, 1, NOT, NOT}, {0, 0, NOT, 0, NOT}, {1, 1, NOT, 1, NOT}, {0, 0, NOT, NOT, 0}};
        for (int p = 0; p < 5; p++) {
            for (int kind = 0; kind < 5; kind++) due("as(" + p + ", " + kind + ")", x.as(p, kind), want[p][kind]);
        }
        due("as(0, 5)", x.as(0, 5), OUTSIDE);
        due("as(0, -1)", x.as(0, -1), OUTSIDE);
        due("as(5, 9)", x.as(5, 9), UNKNOWN);
        tell(x, "city;good 1 1;knower 0 0 0 0 0;knower 0 0 0 0 1");
        due("as(0, 3) of depth 0", x.as(0, 3), 0);
        due("as(1, 3) of depth 1", x.as(1, 3), 1);
    }

    private static void p11SayingAs() {
        NeverBelieved x = new NeverBelieved();
        int[][] want = {{1, 1, NOT, NOT, NOT, NOT, NOT}, {2, NOT, NOT, 2, 2, NOT, NOT}, {2, NOT, NOT, 2, NOT, 2, NOT},
            {2, NOT, NOT, 2, NOT, 2, 2}, {1, 1, 1, NOT, NOT, NOT, NOT}};
        for (int s = 0; s < 5; s++) {
            for (int kind = 0; kind < 7; kind++) due("sayingAs(" + s + ", " + kind + ")", x.sayingAs(s, kind), want[s][kind]);
        }
        due("sayingAs(5, 0)", x.sayingAs(5, 0), OUTSIDE);
        due("sayingAs(-1, 0)", x.sayingAs(-1, 0), OUTSIDE);
        due("sayingAs(0, 7)", x.sayingAs(0, 7), OUTSIDE);
        due("sayingAs(0, -1)", x.sayingAs(0, -1), OUTSIDE);
    }

    private static void p12So() {
        NeverBelieved x = city("good 1 1;good 2 0");
        for (int b = 0; b < 2; b++) {
            for (int c = 0; c < 2; c++) {
                boolean one = b == 1, other = c == 0;
                due("so IS", x.so(0, 0, b, 7, 7), one ? 1 : 0);
                due("so BOTH", x.so(1, 0, b, 1, c), one && other ? 1 : 0);
                due("so EITHER", x.so(2, 0, b, 1, c), one || other ? 1 : 0);
                due("so IF", x.so(3, 0, b, 1, c), one && !other ? 0 : 1);
                due("so SHALL with nobody", x.so(4, 0, b, -7, -7), one ? 1 : 0);
            }
        }
        due("so(5, 9, 9, 9, 9)", x.so(5, 9, 9, 9, 9), OUTSIDE);
        due("so(-1, 0, 1, 1, 0)", x.so(-1, 0, 1, 1, 0), OUTSIDE);
        due("so(0, 2, 9, 0, 0)", x.so(0, 2, 9, 0, 0), UNKNOWN);
        due("so(0, -1, 0, 0, 0)", x.so(0, -1, 0, 0, 0), UNKNOWN);
        due("so(1, 0, 9, 2, 0)", x.so(1, 0, 9, 2, 0), UNKNOWN);
        due("so(1, 0, 9, 0, 9)", x.so(1, 0, 9, 0, 9), UNKNOWN);
        due("so(0, 0, 2, 0, 0)", x.so(0, 0, 2, 0, 0), OUTSIDE);
        due("so(2, 0, -1, 1, 0)", x.so(2, 0, -1, 1, 0), OUTSIDE);
        due("so(3, 0, 1, 1, 2)", x.so(3, 0, 1, 1, 2), OUTSIDE);
        due("so(4, 0, 2, 0, 0)", x.so(4, 0, 2, 0, 0), OUTSIDE);
        // A child makes both come true, a doubter neither.
        tell(x, "city;good 10 0;child 0 1 0 1");
        due("so SHALL 0, a child", x.so(4, 0, 0, 0, 0), 1);
        due("so SHALL 1, a child", x.so(4, 0, 1, 0, 0), 1);
        tell(x, "city;good 10 0;doubter 0 1 0 1");
        due("so SHALL 0, a doubter", x.so(4, 0, 0, 0, 0), 0);
        due("so SHALL 1, a doubter", x.so(4, 0, 1, 0, 0), 0);
        due("count(8)", x.count(8), 0);
        due("count(6)", x.count(6), 0);
    }

    private static void believedPairs() {
        NeverBelieved x = city("good 1 1;good 1 0;good 1 1;child 0 0 0 0");
        due("BOTH believed", x.say(1, 1, 0, 1, 1, 0), 1);
        due("belief(0, 0)", x.belief(0, 0), 1);
        due("belief(0, 1)", x.belief(0, 1), 0);
        due("BOTH believed again", x.say(1, 1, 0, 1, 1, 0), 0);
        due("EITHER, f held contrary", x.say(1, 2, 0, 0, 2, 1), 1);
        due("belief(0, 2)", x.belief(0, 2), 1);
        tell(x, "city;good 1 1;good 1 0;good 1 1;child 0 0 0 0");
        due("EITHER, nothing held", x.say(1, 2, 0, 1, 1, 1), 0);
        x.say(1, 0, 1, 0, 0, 0);
        due("EITHER, g held contrary", x.say(1, 2, 0, 1, 1, 1), 1);
        due("belief(0, 0)", x.belief(0, 0), 1);
        due("IF, f held", x.say(1, 3, 0, 1, 2, 1), 1);
        due("belief(0, 2)", x.belief(0, 2), 1);
        tell(x, "city;good 1 1;good 1 0;good 1 1;child 0 0 0 0");
        due("IF, nothing held", x.say(1, 3, 0, 1, 1, 0), 0);
        x.say(1, 0, 1, 0, 0, 0);
        due("IF, g held contrary", x.say(1, 3, 0, 0, 1, 1), 1);
        due("belief(0, 0)", x.belief(0, 0), 1);
    }

    private static void doubtedPairs() {
        NeverBelieved x = city("good 1 1;good 1 0;doubter 0 0 0 0");
        due("EITHER doubted", x.say(1, 2, 0, 1, 1, 1), 1);
        due("belief(0, 0)", x.belief(0, 0), 0);
        due("belief(0, 1)", x.belief(0, 1), 0);
        due("IF doubted", x.say(1, 3, 0, 1, 1, 0), 1);
        due("belief(0, 0)", x.belief(0, 0), 1);
        due("belief(0, 1)", x.belief(0, 1), 1);
        due("BOTH doubted, f held", x.say(1, 1, 0, 1, 1, 0), 0);
        tell(x, "city;good 1 1;good 1 0;doubter 0 0 0 0");
        due("BOTH doubted, nothing held", x.say(1, 1, 0, 1, 1, 0), 0);
        due("EITHER doubted", x.say(1, 2, 0, 1, 1, 1), 1);
        due("BOTH doubted, g held", x.say(1, 1, 0, 1, 1, 0), 0);
        tell(x, "city;good 1 1;good 1 0;doubter 0 0 0 0");
        due("IF doubted", x.say(1, 3, 0, 0, 1, 1), 1);
        due("BOTH doubted, neither f nor g held, but g", x.say(1, 1, 0, 1, 1, 0), 0);
        due("IF doubted", x.say(1, 3, 0, 1, 1, 0), 1);
        due("SHALL doubted", x.say(1, 4, 1, 0, 0, 0), 0);
        due("belief(0, 1)", x.belief(0, 1), 1);
        tell(x, "city;good 1 1;good 1 1;doubter 0 0 0 0");
        x.say(1, 3, 0, 1, 1, 1);
        due("belief(0, 0)", x.belief(0, 0), 1);
        due("belief(0, 1)", x.belief(0, 1), 0);
        due("BOTH doubted, f held", x.say(1, 1, 0, 1, 1, 1), 0);
        tell(x, "city;good 1 1;good 1 1;good 1 0;doubter 0 0 0 0");
        x.say(1, 3, 0, 1, 2, 0);
        due("BOTH doubted, f held", x.say(1, 1, 0, 1, 1, 1), 1);
        due("belief(0, 1)", x.belief(0, 1), 0);
        tell(x, "city;good 1 1;good 1 1;good 1 0;doubter 0 0 0 0");
        x.say(1, 3, 0, 1, 2, 0);
        due("BOTH doubted, g held", x.say(1, 1, 1, 1, 0, 1), 1);
        due("belief(0, 1)", x.belief(0, 1), 0);
    }

    private static void p13Say() {
        NeverBelieved x = city("good 1 1;good 1 0;doubter 0 0 0 1;child 0 0 0 1;interpreter 0 0 0 1;knower 0 0 0 1 2;knower 0 0 0 1 1");
        due("say(0, ..)", x.say(0, 0, 0, 1, 0, 0), OUTSIDE);
        due("say(32, ..)", x.say(32, 0, 0, 1, 0, 0), OUTSIDE);
        due("say(-1, ..)", x.say(-1, 0, 0, 1, 0, 0), OUTSIDE);
        due("say(LEAST, 9, ..)", x.say(LEAST, 9, 9, 9, 9, 9), OUTSIDE);
        due("say kind", x.say(1, 5, 0, 1, 0, 0), OUTSIDE);
        due("say fact", x.say(1, 0, 2, 5, 0, 0), UNKNOWN);
        due("say one fact twice", x.say(1, 1, 0, 1, 0, 5), UNKNOWN);
        due("say bit", x.say(1, 1, 0, 1, 1, 5), OUTSIDE);
        due("say what is not so", x.say(1, 0, 0, 0, 0, 0), NOT);
        due("count(8)", x.count(8), 0);
        due("count(6)", x.count(6), 0);
        due("say to a doubter, a child, two knowers", x.say(27, 0, 0, 1, 0, 0), 27);
        int[] want = {0, 1, NONE, 0, 1};
        for (int p = 0; p < 5; p++) due("belief(" + p + ", 0)", x.belief(p, 0), want[p]);
        due("say again", x.say(27, 0, 0, 1, 0, 0), 0);
        due("count(8)", x.count(8), 2);
        due("say to the interpreter and the doubter", x.say(5, 0, 0, 1, 0, 0), 4 + 8);
        int[] then = {0, 1, 0, 1, 1};
        for (int p = 0; p < 5; p++) due("belief(" + p + ", 0)", x.belief(p, 0), then[p]);
        believedPairs();
        doubtedPairs();
        // What she may say of the night depends on who hears it.
        tell(x, "city;good 1 0;child 0 1 0 1;doubter 0 1 0 1");
        due("SHALL 1 to the doubter", x.say(2, 4, 0, 1, 0, 0), NOT);
        due("SHALL 0 to the doubter", x.say(2, 4, 0, 0, 0, 0), NOT);
        due("SHALL 1 to the child", x.say(1, 4, 0, 1, 3, 3), 1);
        due("belief(0, 0)", x.belief(0, 0), 1);
        due("night()", x.night(), 10000);
    }

    private static void p14Night() {
        // The deeds come first, by their numbers, then the causes, each by what is so by then.
        NeverBelieved x = city("good 1 0;good 2 0;good 4 0;bad 8 0;child 0 0 1 1;child 0 0 1 0;child 0 0 2 1;cause 2 1 3 1;cause 3 1 0 1;cause 1 1 2 0");
        due("say", x.say(7, 0, 0, 0, 0, 0), 7);
        due("night()", x.night(), 9999 + 1 + 4 - 8);
        due("count(5)", x.count(5), 1 + 4 + 8);
        due("count(3)", x.count(3), 1);
        due("count(6)", x.count(6), 3);
        NeverBelieved y = city("bad 40 1;bad 40 1;bad 40 1;bad 40 1;bad 40 1;bad 40 1");
        due("night()", y.night(), 9999 - 240);
        for (int n = 2; n < 510; n++) y.night();
        due("count(3)", y.count(3), 509);
        NeverBelieved z = new NeverBelieved();
        for (int n = 1; n <= 999; n++) {
            if (z.night() != 9999) due("night() " + n, NOT, 9999);
        }
        due("night() of day 999", z.night(), FULL);
        due("count(3)", z.count(3), 999);
        due("count(8)", z.count(8), 8);
        due("undo()", z.undo(), 7);
        due("night()", z.night(), 9999);
        due("night() of day 999", z.night(), FULL);
    }

    private static void p15Undo() {
        NeverBelieved x = city("good 1 1;child 0 1 0 0");
        due("undo()", x.undo(), NOT);
        x.say(1, 0, 0, 1, 0, 0);
        due("night()", x.night(), 9999);
        due("undo()", x.undo(), 1);
        due("fact(0, 2)", x.fact(0, 2), 1);
        due("count(3)", x.count(3), 0);
        due("belief(0, 0)", x.belief(0, 0), 1);
        due("undo()", x.undo(), 0);
        due("belief(0, 0)", x.belief(0, 0), NONE);
        due("undo()", x.undo(), NOT);
        for (int n = 0; n < 11; n++) x.night();
        due("count(8)", x.count(8), 8);
        for (int n = 7; n >= 0; n--) due("undo()", x.undo(), n);
        due("count(3)", x.count(3), 3);
        due("undo()", x.undo(), NOT);
        due("count(3)", x.count(3), 3);
        x.say(1, 0, 0, 0, 0, 0);
        due("what is refused cannot be undone", x.undo(), NOT);
    }

    private static void p16Keep() {
        NeverBelieved x = city("good 1 1;child 0 1 0 0");
        due("keep(0)", x.keep(0), 0);
        x.night();
        due("keep(1)", x.keep(1), 1);
        due("keep(2)", x.keep(2), UNKNOWN);
        due("keep(-1)", x.keep(-1), UNKNOWN);
        x.night();
        due("keep(1)", x.keep(1), 2);
        due("count(8)", x.count(8), 2);
        due("back(0)", x.back(0), 0);
        due("back(1)", x.back(1), 2);
    }

    private static void p17Back() {
        NeverBelieved x = city("good 1 1;child 0 1 0 0");
        due("back(0)", x.back(0), NOT);
        due("back(2)", x.back(2), UNKNOWN);
        due("back(-1)", x.back(-1), UNKNOWN);
        x.keep(0);
        due("back(1)", x.back(1), NOT);
        x.say(1, 0, 0, 1, 0, 0);
        x.night();
        x.bet(0, 1);
        due("back(0)", x.back(0), 0);
        due("fact(0, 2)", x.fact(0, 2), 1);
        due("belief(0, 0)", x.belief(0, 0), NONE);
        due("undo()", x.undo(), NOT);
        due("count(7)", x.count(7), 1);
        x.night();
        due("back(0) again", x.back(0), 0);
        tell(x, "still");
        due("back(0) behind a text", x.back(0), NOT);
    }

    private static void p18Coming() {
        NeverBelieved x = city("good 1 0;good 2 0;bad 4 0;cause 1 1 2 1;cause 0 1 1 1;cause 0 0 0 1");
        due("coming(1, 0)", x.coming(1, 0), 1);
        due("coming(2, 0)", x.coming(2, 0), 3);
        due("coming(3, 0)", x.coming(3, 0), 7);
        due("coming(20, 1)", x.coming(20, 1), 9999 + 3 - 4);
        due("coming(0, 0)", x.coming(0, 0), OUTSIDE);
        due("coming(21, 0)", x.coming(21, 0), OUTSIDE);
        due("coming(1, 2)", x.coming(1, 2), OUTSIDE);
        due("coming(1, -1)", x.coming(1, -1), OUTSIDE);
        due("count(5)", x.count(5), 0);
        due("count(3)", x.count(3), 0);
    }

    private static void bestIs(NeverBelieved x, int sum, int number, int set) {
        due("best(0)", x.best(0), sum + 9999);
        due("best(1)", x.best(1), number);
        due("best(2)", x.best(2), set);
    }

    private static void p19Best() {
        NeverBelieved x = city("good 10 0;child 0 1 0 1");
        bestIs(x, 10, 40100, 1);
        tell(x, "city;good 10 0;doubter 0 1 0 1");
        bestIs(x, 10, 0, 1);
        tell(x, "city;good 10 0;doubter 0 0 0 1");
        bestIs(x, 10, 40100, 1);
        tell(x, "city;good 10 0;doubter 0 0 0 0");
        bestIs(x, 0, NONE, 0);
        tell(x, "city;good 10 1;doubter 0 1 0 1");
        bestIs(x, 10, NONE, 0);
        // The doubter is told, the child is not; the interpreter alone would set both going.
        tell(x, "city;good 10 0;bad 3 0;child 0 0 1 1;doubter 0 1 0 1;interpreter 1 1 1 0");
        bestIs(x, 10, 0, 2);
        // Two doubters are to hear it.
        tell(x, "city;good 10 0;good 5 0;doubter 0 1 0 1;child 0 1 1 1;doubter 0 1 1 1");
        bestIs(x, 15, 0, 5);
        due("best(3)", x.best(3), OUTSIDE);
        due("best(-1)", x.best(-1), OUTSIDE);
        due("count(6)", x.count(6), 0);
    }

    private static void p20Empty() {
        NeverBelieved x = city("good 10 0;child 0 1 0 1");
        due("empty(0, 0)", x.empty(0, 0), 0);
        due("empty(0, 1)", x.empty(0, 1), NONE);
        x.say(1, 0, 0, 0, 0, 0);
        due("empty(0, 0)", x.empty(0, 0), 2);
        due("empty(0, 1)", x.empty(0, 1), 0);
        due("empty(1, 5)", x.empty(1, 5), UNKNOWN);
        due("empty(-1, 0)", x.empty(-1, 0), UNKNOWN);
        due("empty(0, 2)", x.empty(0, 2), OUTSIDE);
        due("empty(0, -1)", x.empty(0, -1), OUTSIDE);
        // To the interpreter nothing is new, but to the child that he tells it to.
        tell(x, "city;good 10 0;interpreter 0 1 0 0;child 0 1 0 0");
        x.say(3, 0, 0, 0, 0, 0);
        due("empty(0, 0)", x.empty(0, 0), 2);
        tell(x, "city;good 10 0;interpreter 0 0 0 0;child 0 1 0 0;doubter 0 0 0 0");
        x.say(7, 0, 0, 0, 0, 0);
        due("empty(0, 0)", x.empty(0, 0), 0);
        // A doubter holds nothing by BOTH: two facts, one way to say it so, in two orders.
        tell(x, "city;good 9 1;bad 5 0;doubter 0 0 1 1");
        due("empty(0, 0)", x.empty(0, 0), 2);
        due("empty(0, 1)", x.empty(0, 1), 10110);
    }

    private static void p21Said() {
        NeverBelieved x = city("good 10 0;child 0 1 0 1");
        due("said(0, 1, 0)", x.said(0, 1, 0), 1);
        due("said(0, 1, 1)", x.said(0, 1, 1), 40100);
        due("said(0, 0, 0)", x.said(0, 0, 0), 2);
        due("said(0, 0, 1)", x.said(0, 0, 1), 0);
        tell(x, "city;good 10 0;doubter 0 1 0 1");
        due("said(0, 1, 0)", x.said(0, 1, 0), 1);
        due("said(0, 1, 1)", x.said(0, 1, 1), 0);
        due("said(0, 0, 0)", x.said(0, 0, 0), 0);
        due("said(0, 0, 1)", x.said(0, 0, 1), NONE);
        due("said(1, 5, 5)", x.said(1, 5, 5), UNKNOWN);
        due("said(0, 2, 0)", x.said(0, 2, 0), OUTSIDE);
        due("said(0, -1, 0)", x.said(0, -1, 0), OUTSIDE);
        due("said(0, 0, 2)", x.said(0, 0, 2), OUTSIDE);
        due("said(0, 0, -1)", x.said(0, 0, -1), OUTSIDE);
    }

    private static void p22Rests() {
        NeverBelieved x = city("good 10 0;good 4 0;child 0 1 0 1;interpreter 0 1 1 1;doubter 0 1 0 0");
        due("rests(0, 1, 0, 1, 0)", x.rests(0, 1, 0, 1, 0), 1);
        due("rests(0, 1, 0, 1, 1)", x.rests(0, 1, 0, 1, 1), 3);
        due("rests(0, 1, 0, 0, 0)", x.rests(0, 1, 0, 0, 0), 1);
        due("rests(0, 1, 0, 0, 1)", x.rests(0, 1, 0, 0, 1), 0);
        due("rests(0, 1, 1, 0, 0)", x.rests(0, 1, 1, 0, 0), 4);
        due("rests(0, 1, 1, 0, 1)", x.rests(0, 1, 1, 0, 1), 0);
        // The first alone is to believe it; but that the third alone does rests, too: one of both changes nothing.
        due("rests(0, 2, 0, 1, 0)", x.rests(0, 2, 0, 1, 0), 2);
        due("rests(0, 2, 0, 1, 1)", x.rests(0, 2, 0, 1, 1), 1);
        due("rests(0, 2, 0, 0, 0)", x.rests(0, 2, 0, 0, 0), 2);
        due("rests(1, 2, 0, 1, 0)", x.rests(1, 2, 0, 1, 0), 2);
        due("rests(1, 2, 0, 1, 1)", x.rests(1, 2, 0, 1, 1), 2);
        due("rests(2, 1, 0, 1, 1)", x.rests(2, 1, 0, 1, 1), 1);
        due("rests(0, 0, 0, 0, 0)", x.rests(0, 0, 0, 0, 0), UNKNOWN);
        due("rests(0, 3, 0, 0, 0)", x.rests(0, 3, 0, 0, 0), UNKNOWN);
        due("rests(0, 1, 2, 0, 0)", x.rests(0, 1, 2, 0, 0), UNKNOWN);
        due("rests(-1, 0, 0, 0, 0)", x.rests(-1, 0, 0, 0, 0), UNKNOWN);
        due("rests(0, 1, 3, 5, 5)", x.rests(0, 1, 3, 5, 5), UNKNOWN);
        due("rests(0, 1, 0, 2, 0)", x.rests(0, 1, 0, 2, 0), OUTSIDE);
        due("rests(0, 1, 0, -1, 0)", x.rests(0, 1, 0, -1, 0), OUTSIDE);
        due("rests(0, 1, 0, 0, 2)", x.rests(0, 1, 0, 0, 2), OUTSIDE);
        due("rests(0, 1, 0, 0, -1)", x.rests(0, 1, 0, 0, -1), OUTSIDE);
        due("count(6)", x.count(6), 0);
    }

    private static void p23Bet() {
        NeverBelieved x = city("good 10 0;good 4 0");
        due("bet(2, 100)", x.bet(2, 100), UNKNOWN);
        due("bet(-1, 0)", x.bet(-1, 0), UNKNOWN);
        due("bet(0, 100)", x.bet(0, 100), OUTSIDE);
        due("bet(0, -1)", x.bet(0, -1), OUTSIDE);
        due("count(7)", x.count(7), 0);
        for (int n = 1; n <= 5; n++) due("bet(1, 99)", x.bet(1, n == 1 ? 0 : 99), n);
        due("bet(1, 5)", x.bet(1, 5), FULL);
        due("bet(1, 100)", x.bet(1, 100), OUTSIDE);
        due("bet(2, 0)", x.bet(2, 0), UNKNOWN);
        due("count(7)", x.count(7), 5);
    }

    private static void p24Call() {
        NeverBelieved x = city("good 10 0;good 4 0");
        due("call()", x.call(), 0);
        x.bet(0, 1);
        x.bet(1, 1);
        x.night();
        due("count(7)", x.count(7), 2);
        due("call()", x.call(), 2);
        due("call()", x.call(), 0);
        due("bet(0, 1)", x.bet(0, 1), 1);
    }

    private static void sureIs(NeverBelieved x, int much, int set) {
        due("sure(0)", x.sure(0), much);
        due("sure(1)", x.sure(1), set);
    }

    private static void p25Sure() {
        NeverBelieved x = city("good 1 1;bad 1 0;child 1 1 1 0");
        sureIs(x, 0, 0);
        x.bet(1, 0);
        sureIs(x, 0, 0);
        x.bet(0, 40);
        sureIs(x, 60, 2);
        x.bet(0, 99);
        sureIs(x, 61, 6);
        x.bet(1, 1);
        sureIs(x, 61, 6);
        // One or the other is true, by what the doubter is told.
        tell(x, "city;good 1 1;good 1 0;doubter 0 0 0 0;cause 0 0 1 1");
        x.bet(0, 40);
        x.bet(1, 50);
        sureIs(x, 10, 3);
        x.bet(1, 60);
        sureIs(x, 10, 3);
        x.call();
        x.bet(0, 40);
        sureIs(x, 0, 0);
        due("sure(2)", x.sure(2), OUTSIDE);
        due("sure(-1)", x.sure(-1), OUTSIDE);
    }

    private static void planIs(NeverBelieved x, int d, int sum, int number, int one) {
        due("plan(" + d + ", 0)", x.plan(d, 0), sum + 9999);
        due("plan(" + d + ", 1)", x.plan(d, 1), number);
        due("plan(" + d + ", 2)", x.plan(d, 2), one);
    }

    private static void p26Plan() {
        NeverBelieved x = city("good 10 0;child 0 1 0 1");
        planIs(x, 1, 10, 40100, 0);
        planIs(x, 2, 10, NONE, NONE);
        // It can be said on the second day alone.
        tell(x, "city;good 10 0;good 0 0;good 0 0;doubter 1 0 0 1;cause 2 1 1 1;cause 2 0 2 1");
        planIs(x, 1, 0, NONE, NONE);
        planIs(x, 2, 10, NONE, NONE);
        // Each is to be told by himself, so two days save both; the first may be either.
        tell(x, "city;good 10 0;good 5 0;doubter 0 1 0 1;doubter 1 1 1 1");
        planIs(x, 1, 10, 0, 0);
        planIs(x, 2, 15, 0, 0);
        tell(x, "city;good 10 0;good 5 0;child 0 1 1 0;doubter 1 1 1 1;doubter 0 1 0 1");
        planIs(x, 1, 10, 0, 2);
        planIs(x, 2, 15, 0, 2);
        tell(x, "city;bad 5 1;child 0 0 0 0");
        planIs(x, 1, 0, 40000, 0);
        tell(x, "city;" + times("good 0 0", 5) + ";good 5 0;child 5 1 5 1");
        planIs(x, 1, 5, 45100, 0);
        planIs(x, 2, 5, NONE, NONE);
        due("plan(0, 0)", x.plan(0, 0), OUTSIDE);
        due("plan(3, 0)", x.plan(3, 0), OUTSIDE);
        due("plan(1, 3)", x.plan(1, 3), OUTSIDE);
        due("plan(1, -1)", x.plan(1, -1), OUTSIDE);
        due("count(3)", x.count(3), 0);
        due("count(6)", x.count(6), 0);
    }

    private static void siegesAre(NeverBelieved x, int z, int n, int none, int seer, int guesser) {
        due("sieges(" + z + ", " + n + ", 0)", x.sieges(z, n, 0), none);
        due("sieges(" + z + ", " + n + ", 1)", x.sieges(z, n, 1), seer);
        due("sieges(" + z + ", " + n + ", 2)", x.sieges(z, n, 2), guesser);
    }

    private static void p27Sieges() {
        NeverBelieved x = new NeverBelieved();
        due("sieges(0, 0, 0) of no facts", x.sieges(0, 0, 0), NOT);
        due("sieges(-1, 0, 0)", x.sieges(-1, 0, 0), OUTSIDE);
        tell(x, "bad 5 0;child 0 0 0 0");
        siegesAre(x, 0, 0, 0, 0, 0);
        // DRAW is 1: fact 0 is turned; the guess is that it is 0.
        siegesAre(x, 0, 1, 0, 1, 1);
        // DRAW is 1, then 41487: the guesses are 0, 0.
        siegesAre(x, 0, 2, 0, 2, 2);
        tell(x, "city;bad 5 0;child 0 1 0 0");
        siegesAre(x, 0, 1, 0, 1, 0);
        tell(x, "city;bad 5 0");
        siegesAre(x, 9999, 9, 0, 0, 0);
        // The squares of so high a z are too large for 32 bits.
        tell(x, "city;bad 1 0;good 1 0;bad 1 0;bad 1 0;bad 1 0;bad 1 0");
        siegesAre(x, drawn(1), 1, 1, 1, 1);
        siegesAre(x, drawn(0), 1, 0, 0, 0);
        due("sieges(10000, 1, 0)", x.sieges(10000, 1, 0), OUTSIDE);
        due("sieges(0, 10, 0)", x.sieges(0, 10, 0), OUTSIDE);
        due("sieges(0, -1, 0)", x.sieges(0, -1, 0), OUTSIDE);
        due("sieges(0, 1, 3)", x.sieges(0, 1, 3), OUTSIDE);
        due("sieges(0, 1, -1)", x.sieges(0, 1, -1), OUTSIDE);
        due("count(5)", x.count(5), 0);
        due("count(6)", x.count(6), 0);
    }

    /** The highest z whose first DRAW turns this of 6 facts. */
    private static int drawn(int fact) {
        for (int z = 9999; z > 0; z--) {
            long x = 7919L * z + 1;
            if (x * x % 65521 % 6 == fact) return z;
        }
        return 0;
    }

    private static void p28Count() {
        NeverBelieved x = city("good 10 1;bad 4 1;good 3 0;child 0 1 0 1;doubter 1 0 0 0;cause 0 1 2 1");
        x.say(1, 1, 0, 1, 1, 1);
        x.say(2, 0, 0, 1, 0, 0);
        x.night();
        x.bet(0, 5);
        x.bet(1, 5);
        write(x, "city");
        int[] want = {3, 2, 1, 1, 9999 + 10 - 4 + 3, 7, 3, 2, 3, 4};
        for (int what = 0; what < want.length; what++) due("count(" + what + ")", x.count(what), want[what]);
        due("count(10)", x.count(10), OUTSIDE);
        due("count(-1)", x.count(-1), OUTSIDE);
        due("count(MOST)", x.count(MOST), OUTSIDE);
    }

    public static void main(String[] args) {
        Runnable[] promises = {PromiseTest::p1New, PromiseTest::p2Write, PromiseTest::p3Erase, PromiseTest::p4Fault,
            PromiseTest::p5City, PromiseTest::p6Fact, PromiseTest::p7One, PromiseTest::p8Cause, PromiseTest::p9Belief,
            PromiseTest::p10As, PromiseTest::p11SayingAs, PromiseTest::p12So, PromiseTest::p13Say, PromiseTest::p14Night,
            PromiseTest::p15Undo, PromiseTest::p16Keep, PromiseTest::p17Back, PromiseTest::p18Coming, PromiseTest::p19Best,
            PromiseTest::p20Empty, PromiseTest::p21Said, PromiseTest::p22Rests, PromiseTest::p23Bet, PromiseTest::p24Call,
            PromiseTest::p25Sure, PromiseTest::p26Plan, PromiseTest::p27Sieges, PromiseTest::p28Count};
        for (Runnable test : promises) {
            promise++;
            test.run();
        }
        System.out.println(promise + " promises tried, " + wrong + " answers are not as due");
        if (wrong != 0) System.exit(1);
    }
}
