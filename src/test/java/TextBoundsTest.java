import java.util.Collections;

/** The bounds of THE TEXT, each sentence of the document that names one by itself: right below it, at it, right above it. */
public final class TextBoundsTest {
    private static final int NONE = -1, UNKNOWN = -2, NOT = -4, FULL = -5;
    private static final String[] CLAUSES = {"city", "good 40 1", "bad 0 0", "doubter 0 1 0 0", "child 0 0 0 1", "knower 0 1 0 1 3",
        "interpreter 0 0 0 0", "cause 0 1 0 1", "still"};
    private static final String[] PEOPLE = {"doubter 0 1 0 0", "child 0 0 0 1", "knower 0 1 0 1 3", "interpreter 0 0 0 0"};
    private static String sentence = "";
    private static int sentences = 0;
    private static int wrong = 0;

    private static void says(String words) {
        sentence = words;
        sentences++;
    }

    private static void due(String call, int got, int want) {
        if (got != want) {
            wrong++;
            if (wrong <= 40) System.out.println("\"" + sentence + "\": " + call + " answered " + got + ", due is " + want);
        }
    }

    private static void write(NeverBelieved x, String text) {
        for (int i = 0; i < text.length(); i++) x.write(text.charAt(i));
    }

    private static NeverBelieved told(String... texts) {
        NeverBelieved x = new NeverBelieved();
        for (String text : texts) {
            write(x, text);
            if (x.city() < 1) due("city() of '" + text + "'", NOT, 1);
        }
        return x;
    }

    private static String times(String clause, int n) {
        return String.join(";", Collections.nCopies(n, clause));
    }

    /** The place of the fault of a text behind other texts; city() is refused by it, and only by it. */
    private static void faultOf(String text, int place, String... texts) {
        NeverBelieved x = told(texts);
        write(x, text);
        due("fault() of '" + text + "'", x.fault(), place);
        int clauses = text.length() - text.replace(";", "").length() + 1;
        due("city() of '" + text + "'", x.city(), place == NONE ? clauses : NOT);
        due("letters behind city() of '" + text + "'", x.count(9), place == NONE ? 0 : text.length());
    }

    // ---- how many there can be

    private static void facts() {
        says("FACTS are 0, 1 .. as they come, 6 at most (none at first)");
        due("facts at first", new NeverBelieved().count(0), 0);
        due("fact(0, 0) at first", new NeverBelieved().fact(0, 0), UNKNOWN);
        for (int n = 1; n <= 6; n++) {
            NeverBelieved x = told(times("good 7 1", n));
            due("facts", x.count(0), n);
            due("the last fact", x.fact(n - 1, 1), 7);
            due("one fact more", x.fact(n, 1), UNKNOWN);
        }
        NeverBelieved x = told("good 1 0;bad 2 1;bad 3 0", "good 4 1;good 5 0;bad 6 1");
        for (int f = 0; f < 6; f++) due("worths as they come", x.fact(f, 1), f + 1);
        says("a seventh FACT cannot stand there (at its word)");
        for (String word : new String[] {"good", "bad"}) {
            faultOf(times("good 1 1", 5) + ";" + word + " 1 1", NONE);
            faultOf(times("good 1 1", 6) + ";" + word + " 1 1", 54);
            faultOf(times("good 1 1", 6) + ";" + word, 54);
            faultOf(times("good 1 1", 6) + ";  " + word + " 99", 56);
            for (int n = 0; n <= 6; n++) {
                String earlier = n == 0 ? "city" : times("bad 1 1", n);
                faultOf(times(word + " 1 1", 6), n == 0 ? NONE : (6 - n) * (word.length() + 5), earlier);
            }
            faultOf("city;" + times(word + " 1 1", 6), NONE, times("bad 1 1", 6));
            faultOf(word + " 1 1;city", 0, times("bad 1 1", 6));
        }
    }

    private static void people() {
        says("PEOPLE are 0, 1 .. as they come, 5 at most (none at first)");
        due("people at first", new NeverBelieved().count(1), 0);
        due("one(0, 0) at first", new NeverBelieved().one(0, 0), UNKNOWN);
        for (String clause : PEOPLE) {
            for (int n = 1; n <= 5; n++) {
                NeverBelieved x = told("good 1 1;" + times(clause, n));
                due("people", x.count(1), n);
                due("the last of them", x.one(n - 1, 1), 0);
                due("one more", x.one(n, 1), UNKNOWN);
            }
        }
        NeverBelieved x = told("good 1 1;" + String.join(";", PEOPLE));
        for (int p = 0; p < 4; p++) due("kinds as they come", x.one(p, 0), p);
        says("a sixth of PEOPLE cannot stand there (at its word)");
        for (String clause : PEOPLE) {
            faultOf("good 1 1;" + times("child 0 0 0 0", 4) + ";" + clause, NONE);
            faultOf("good 1 1;" + times("child 0 0 0 0", 5) + ";" + clause, 79);
            faultOf("good 1 1;" + times("child 0 0 0 0", 5) + ";" + clause.split(" ")[0] + " x", 79);
            faultOf(clause, 0, "good 1 1;" + times("child 0 0 0 0", 5));
            faultOf("still;" + clause, 6, "good 1 1;" + times("child 0 0 0 0", 5));
            faultOf("city;bad 1 1;" + clause, NONE, "good 1 1;" + times("child 0 0 0 0", 5));
        }
    }

    private static void causes() {
        says("CAUSES are 0, 1 .. as they come, 6 at most (none at first)");
        due("causes at first", new NeverBelieved().count(2), 0);
        due("cause(0, 0) at first", new NeverBelieved().cause(0, 0), UNKNOWN);
        for (int n = 1; n <= 6; n++) {
            NeverBelieved x = told("good 1 1;good 1 1;" + times("cause 0 0 1 0", n));
            due("causes", x.count(2), n);
            due("the last cause", x.cause(n - 1, 2), 1);
            due("one cause more", x.cause(n, 2), UNKNOWN);
        }
        says("a seventh CAUSE cannot stand there (at its word)");
        String six = "good 1 1;" + times("cause 0 0 0 0", 6);
        faultOf("good 1 1;" + times("cause 0 0 0 0", 5) + ";cause 0 0 0 0", NONE);
        faultOf(six + ";cause 0 0 0 0", 93);
        faultOf(six + ";cause", 93);
        faultOf(six + ";still;cause 0 0 0 0", NONE);
        faultOf("cause 0 0 0 0", 0, six);
        faultOf("still;" + times("cause 0 0 0 0", 6), NONE, six);
        faultOf("still;" + times("cause 0 0 0 0", 7), 90, six);
        faultOf("city;good 1 1;cause 0 0 0 0", NONE, six);
        says("all three full: 6, 5, 6");
        NeverBelieved x = told(times("good 1 1", 6) + ";" + times("child 5 0 5 0", 5), times("cause 5 0 5 0", 6));
        for (int what = 0; what < 3; what++) due("count(" + what + ")", x.count(what), what == 1 ? 5 : 6);
        due("best(1)", x.best(1), NONE);
    }

    private static void letters() {
        says("THE TEXT is a row of letters, 160 at most");
        NeverBelieved x = new NeverBelieved();
        for (int n = 1; n <= 160; n++) due("write(..)", x.write(n <= 155 ? ' ' : "still".charAt(n - 156)), n);
        due("fault() of 160 letters", x.fault(), NONE);
        for (int n = 0; n < 3; n++) due("a letter more", x.write('s'), FULL);
        due("count(9)", x.count(9), 160);
        due("fault() of 160 letters", x.fault(), NONE);
        due("city() of 160 letters", x.city(), 1);
        due("a letter behind city()", x.write('x'), 1);
        for (int n = 2; n <= 159; n++) x.write(' ');
        due("the last letter", x.write(255), 160);
        due("a letter more", x.write(255), FULL);
        due("erase()", x.erase(), 160);
        due("erase() again", x.erase(), 0);
        due("fault() of none", x.fault(), 0);
        for (int n = 1; n <= 160; n++) due("write(32)", x.write(' '), n);
        due("fault() of blanks", x.fault(), 160);
        says("a letter (its number, 0 .. 255)");
        NeverBelieved y = new NeverBelieved();
        for (int letter = 0; letter <= 255; letter++) {
            if (letter == 160) y.erase();
            due("write(" + letter + ")", y.write(letter), letter % 160 + 1);
        }
    }

    private static void clauses() {
        says("CLAUSES with ; between, 14 at most");
        for (int n = 1; n <= 14; n++) {
            NeverBelieved x = new NeverBelieved();
            write(x, times("still", n));
            due("fault() of " + n, x.fault(), NONE);
            due("city() of " + n, x.city(), n);
        }
        faultOf(times("city", 15), 69);
        faultOf(times("city", 14) + ";", 69);
        faultOf(times("city", 14) + ";x", 69);
        faultOf(times("city", 14) + "  ;", 71);
        faultOf(times("city", 13) + ";", 65);
        faultOf(times("city", 13) + ";x", 65);
        faultOf(times("city", 32), 69);
        says("; between: neither first, nor last, nor two");
        faultOf(";", 0);
        faultOf(";still", 0);
        faultOf("still;", 6);
        faultOf("still;;still", 6);
        faultOf("still still", 6);
        faultOf("still,still", 5);
        faultOf("still:still", 5);
        faultOf("still<still", 5);
    }

    // ---- numbers

    /** Every number of one or two digits where a clause has one of those up to most; longer ones cannot stand there. */
    private static void numberUpTo(int most, String ahead, String behind, String... texts) {
        for (int n = 0; n < 100; n++) {
            faultOf(ahead + n + behind, n <= most ? NONE : ahead.length(), texts);
            if (n < 10) faultOf(ahead + "0" + n + behind, n <= most ? NONE : ahead.length(), texts);
            faultOf(ahead + (n < 10 ? "00" : "0") + n + behind, ahead.length(), texts);
        }
        for (String many : new String[] {"100", "256", "999", "65536", "2147483647", "2147483648", "4294967296", "4294967297",
            "18446744073709551616", "000", "0000000000000000000000"}) {
            faultOf(ahead + many + behind, ahead.length(), texts);
        }
        for (String no : new String[] {"-0", "+0", ".0", ";", "zero", "a", "O", "-1"}) faultOf(ahead + no + behind, ahead.length(), texts);
        faultOf(ahead.stripTrailing(), ahead.stripTrailing().length(), texts);
    }

    private static void worths() {
        says("of a WORTH (0 .. 40)");
        numberUpTo(40, "good ", " 1");
        numberUpTo(40, "bad ", " 0");
        for (int v : new int[] {0, 1, 9, 10, 39, 40}) {
            due("fact(0, 1)", told("good " + v + " 1").fact(0, 1), v);
            due("fact(0, 1)", told("bad " + v + " 0").fact(0, 1), v);
        }
        due("fact(0, 1) of 07", told("good 07 01").fact(0, 1), 7);
        says("good, bad: a FACT more .. that is B (0, 1)");
        numberUpTo(1, "good 9 ", "");
        numberUpTo(1, "bad 9 ", "");
        for (int b = 0; b < 2; b++) {
            due("fact(0, 2)", told("good 0 " + b).fact(0, 2), b);
            due("fact(0, 0) of bad", told("bad 0 " + b).fact(0, 0), 1);
            due("fact(0, 0) of good", told("good 0 " + b).fact(0, 0), 0);
        }
    }

    private static void deeds() {
        says("FACTS F, G such as there are behind the CLAUSES ahead; B, C 0 or 1");
        for (String word : new String[] {"doubter", "child", "knower", "interpreter", "cause"}) {
            String last = word.equals("knower") ? " 0" : "";
            for (int facts = 1; facts <= 6; facts += facts == 2 ? 3 : 1) {
                String earlier = times("good 1 1", facts);
                numberUpTo(facts - 1, word + " ", " 0 0 0" + last, earlier);
                numberUpTo(facts - 1, word + " 0 1 ", " 1" + last, earlier);
            }
            numberUpTo(1, word + " 0 ", " 0 0" + last, "good 1 1");
            numberUpTo(1, word + " 0 0 0 ", last, "good 1 1");
            faultOf(word + " 0 0 0 0" + last, word.length() + 1);
            faultOf("good 1 1;city;" + word + " 0 0 0 0" + last, word.length() + 15);
            faultOf("city;" + word + " 0 0 0 0" + last, word.length() + 6, times("good 1 1", 6));
            faultOf(word + " 1 0 0 0" + last + ";good 1 1", word.length() + 1, "good 1 1");
            faultOf("good 1 1;" + word + " 1 0 1 0" + last, NONE, "good 1 1");
        }
        says("they may be alike");
        due("F", told("good 1 1;child 0 1 0 0").one(0, 1), 0);
        due("G", told("good 1 1;cause 0 1 0 0").cause(0, 2), 0);
    }

    private static void depths() {
        says("a KNOWER has a DEPTH (0 .. 3; others 0)");
        numberUpTo(3, "knower 0 0 0 0 ", "", "good 1 1");
        for (int d = 0; d <= 3; d++) due("DEPTH", told("good 1 1;knower 0 0 0 0 " + d).one(0, 5), d);
        for (String clause : PEOPLE) {
            boolean knower = clause.startsWith("knower");
            due("DEPTH of " + clause, told("good 1 1;" + clause).one(0, 5), knower ? 3 : 0);
            due("DEPTH of " + clause + " behind knowers", told("good 1 1;knower 0 0 0 0 3", "city;good 1 1;" + clause).one(0, 5), knower ? 3 : 0);
            if (!knower) faultOf(clause + " 0", clause.length() + 1, "good 1 1");
        }
        faultOf("knower 0 0 0 0 0 0", 17, "good 1 1");
        faultOf("cause 0 0 0 0 0", 14, "good 1 1");
        faultOf("good 1 1 1", 9);
        faultOf("city 0", 5);
        faultOf("still 0", 6);
    }

    // ---- tokens

    private static boolean small(int letter) {
        return letter >= 97 && letter <= 122;
    }

    private static boolean digit(int letter) {
        return letter >= 48 && letter <= 57;
    }

    private static void tokens() {
        says("TOKEN (a row of small letters, a row of digits, any other letter); small letters a .. z; blanks between");
        for (int letter = 0; letter <= 255; letter++) {
            char sign = (char) letter;
            boolean blank = letter == 32, semicolon = letter == ';';
            // Behind a word, ahead of one, alone, in one; behind a number, in one.
            faultOf("city" + sign, blank ? NONE : semicolon ? 5 : small(letter) ? 0 : 4);
            faultOf(sign + "city", blank ? NONE : 0);
            faultOf("" + sign, blank ? 1 : 0);
            faultOf("ci" + sign + "ty", 0);
            faultOf("good 1 1" + sign, blank ? NONE : semicolon ? 9 : digit(letter) ? 7 : 8);
            faultOf("good 1" + sign + " 1", blank || digit(letter) ? NONE : 6);
            faultOf("good" + sign + "1 1", blank ? NONE : letter >= '0' && letter <= '3' ? NONE : small(letter) ? 0 : 4);
            faultOf("good 1 " + sign + "1", blank || letter == 48 ? NONE : 7);
        }
    }

    private static void words() {
        says("each is one of: city, good, bad, doubter, child, knower, interpreter, cause, still");
        for (String clause : CLAUSES) {
            String word = clause.split(" ")[0], rest = clause.substring(word.length());
            faultOf(clause, NONE, "good 1 1");
            for (int n = 1; n < word.length(); n++) {
                faultOf(word.substring(0, n) + rest, 0, "good 1 1");
                faultOf(word.substring(n) + rest, 0, "good 1 1");
            }
            for (int n = 0; n < word.length(); n++) {
                faultOf(word.substring(0, n) + "q" + word.substring(n + 1) + rest, 0, "good 1 1");
                faultOf(word.substring(0, n) + word.substring(n, n + 1).toUpperCase() + word.substring(n + 1) + rest, 0, "good 1 1");
            }
            faultOf(word + "s" + rest, 0, "good 1 1");
            faultOf(word + word + rest, 0, "good 1 1");
            faultOf("." + clause, 0, "good 1 1");
            faultOf(clause + ".", clause.length(), "good 1 1");
        }
    }

    private static void tooSoon() {
        says("or at the end, if it comes too soon");
        faultOf("", 0);
        faultOf("  ", 2);
        for (String clause : CLAUSES) {
            String[] parts = clause.split(" ");
            String begun = "";
            for (int n = 0; n + 1 < parts.length; n++) {
                begun += (n == 0 ? "" : " ") + parts[n];
                faultOf(begun, begun.length(), "good 1 1");
                faultOf(begun + " ", begun.length() + 1, "good 1 1");
                faultOf(begun + ";", begun.length(), "good 1 1");
                faultOf(begun + ";city", begun.length(), "good 1 1");
                faultOf(begun + " city", begun.length() + 1, "good 1 1");
            }
            faultOf(clause + ";", clause.length() + 1, "good 1 1");
            faultOf(clause + " ; ", clause.length() + 3, "good 1 1");
        }
        says("at the first TOKEN that cannot stand there");
        faultOf("good 41 2;bad 99 9", 5);
        faultOf("good 40 2;bad 99 9", 8);
        faultOf("good 40 1;bad 99 9", 14);
        faultOf("good 40 1;bad 40 9", 17);
    }

    // ---- what is done

    private static void order() {
        says("CLAUSES are done in their order");
        NeverBelieved x = told("good 1 1;cause 0 0 0 0;city;bad 2 0;bad 3 1;cause 1 1 0 0;still;cause 0 1 1 1;cause 1 0 1 0");
        int[] counts = {2, 0, 2, 0, 9999 - 3, 2, 0, 0, 0, 0};
        for (int what = 0; what < counts.length; what++) due("count(" + what + ")", x.count(what), counts[what]);
        due("cause(0, 3)", x.cause(0, 3), 1);
        due("cause(1, 3)", x.cause(1, 3), 0);
        due("fact(0, 1)", x.fact(0, 1), 2);
        says("city: all as at first");
        NeverBelieved y = told("good 1 1;child 0 0 0 0;cause 0 0 0 0;city");
        for (int what = 0; what < 10; what++) due("count(" + what + ")", y.count(what), what == 4 ? 9999 : 0);
        NeverBelieved was = told("good 1 1;interpreter 0 0 0 0;knower 0 0 0 0 3", "city;good 1 1;doubter 0 1 0 1;child 0 1 0 1");
        due("where an interpreter was", was.say(1, 0, 0, 1, 0, 0), 1);
        due("where a knower was", was.as(1, 2), 1);
        due("where facts were true", told(times("good 1 1", 6), "city;good 1 0;good 1 0").count(5), 0);
        says("still: no CAUSES");
        NeverBelieved z = told("good 1 1;child 0 0 0 0;cause 0 0 0 0;cause 0 0 0 0;still");
        for (int what = 0; what < 3; what++) due("count(" + what + ")", z.count(what), what == 2 ? 0 : 1);
    }

    private static void behind() {
        says("Behind them it is DAY 0, FACTS are as told, nobody BELIEVES anything; no BETS, nothing is kept or can be undone");
        for (String text : new String[] {"still", "bad 3 0", "child 0 0 0 0", "cause 0 0 0 0", "city;good 9 1;child 0 1 0 0"}) {
            NeverBelieved x = told("good 9 1;child 0 1 0 0");
            x.say(1, 0, 0, 1, 0, 0);
            x.night();
            x.keep(0);
            x.keep(1);
            x.bet(0, 7);
            due("the fact by then", x.fact(0, 2), 0);
            write(x, text);
            due("city() of '" + text + "'", x.city() > 0 ? 1 : 0, 1);
            due("DAY", x.count(3), 0);
            due("the fact as told", x.fact(0, 2), 1);
            due("what they believe", x.count(6), 0);
            due("belief(0, 0)", x.belief(0, 0), NONE);
            due("bets", x.count(7), 0);
            due("how many can be undone", x.count(8), 0);
            due("undo()", x.undo(), NOT);
            due("back(0)", x.back(0), NOT);
            due("back(1)", x.back(1), NOT);
            due("letters", x.count(9), 0);
        }
    }

    public static void main(String[] args) {
        facts();
        people();
        causes();
        letters();
        clauses();
        worths();
        deeds();
        depths();
        tokens();
        words();
        tooSoon();
        order();
        behind();
        System.out.println(sentences + " sentences on the text, " + wrong + " answers are not as due");
        if (wrong != 0) System.exit(1);
    }
}
