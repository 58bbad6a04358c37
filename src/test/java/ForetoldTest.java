import java.util.ArrayList;
import java.util.List;
import java.util.Random;

/**
 * What is foretold is what comes: in drawn cities every sentence is said to every set, each time to a new object that
 * was made alike, the night comes, and what is found so is held against what was foretold. No model stands between.
 */
public final class ForetoldTest {
    private static final int NONE = -1, SILENCE = -1;
    private static final int[] PAIRS = {1, 2, 3};
    private static int wrong = 0;
    private static int cities = 0;

    record Sentence(int kind, int f, int b, int g, int c) {
        int number() {
            return 10000 * kind + 1000 * f + 100 * b + 10 * g + c;
        }

        boolean saidTo(NeverBelieved x, int set) {
            return x.say(set, kind, f, b, g, c) >= 0;
        }
    }

    /** A city told, and what was done in it: an object can be made of it again and again. */
    static final class Tale {
        final int facts, people;
        final int[] told, deedF, deedB;
        final String others;
        final String[] kinds;
        final List<int[]> done = new ArrayList<>();

        Tale(Random random, int facts, int people) {
            this.facts = facts;
            this.people = people;
            told = new int[facts];
            kinds = new String[facts];
            deedF = new int[people];
            deedB = new int[people];
            for (int f = 0; f < facts; f++) {
                told[f] = random.nextInt(2);
                kinds[f] = (random.nextInt(3) == 0 ? "bad " : "good ") + random.nextInt(random.nextBoolean() ? 4 : 41);
            }
            StringBuilder rest = new StringBuilder();
            String[] words = {"doubter", "child", "knower", "interpreter"};
            for (int p = 0; p < people; p++) {
                String word = words[random.nextInt(4)];
                deedF[p] = random.nextInt(facts);
                deedB[p] = random.nextInt(2);
                rest.append(';').append(word).append(' ').append(deedF[p]).append(' ').append(deedB[p]).append(' ')
                        .append(random.nextInt(facts)).append(' ').append(random.nextInt(2));
                if (word.equals("knower")) rest.append(' ').append(random.nextInt(4));
            }
            for (int k = random.nextInt(3); k > 0 && facts + people + k < 14 && rest.length() + 10 * facts < 130; k--) {
                rest.append(";cause ").append(random.nextInt(facts)).append(' ').append(random.nextInt(2)).append(' ')
                        .append(random.nextInt(facts)).append(' ').append(random.nextInt(2));
            }
            others = rest.toString();
            for (int n = random.nextInt(6); n > 0; n--) {
                done.add(new int[] {1 + random.nextInt((1 << people) - 1), random.nextInt(5), random.nextInt(facts), random.nextInt(2),
                    random.nextInt(facts), random.nextInt(2), random.nextInt(3)});
            }
        }

        /** The city, but for one fact that is the contrary (NONE: all are as told). */
        String text(int turned) {
            StringBuilder text = new StringBuilder();
            for (int f = 0; f < facts; f++) {
                if (f > 0) text.append(';');
                text.append(kinds[f]).append(' ').append(f == turned ? 1 - told[f] : told[f]);
            }
            return text + others;
        }

        NeverBelieved make(int turned) {
            NeverBelieved x = new NeverBelieved();
            String text = text(turned);
            for (int i = 0; i < text.length(); i++) x.write(text.charAt(i));
            if (x.city() < 0) due("city() of " + text, x.fault(), NONE);
            return x;
        }

        NeverBelieved make() {
            NeverBelieved x = make(NONE);
            for (int[] n : done) {
                if (n[6] == 0) x.night();
                else x.say(n[0], n[1], n[2], n[3], n[4], n[5]);
            }
            return x;
        }

        List<Sentence> sentences(boolean singles) {
            List<Sentence> all = new ArrayList<>();
            for (int number = 0; number < 50000; number++) {
                Sentence s = new Sentence(number / 10000, number / 1000 % 10, number / 100 % 10, number / 10 % 10, number % 10);
                if (s.f >= facts || s.b > 1 || s.c > 1) continue;
                boolean pair = s.kind >= PAIRS[0] && s.kind <= PAIRS[2];
                if (pair ? s.g < facts && s.g != s.f && !singles : s.g == 0 && s.c == 0) all.add(s);
            }
            return all;
        }

        void due(String call, int got, int want) {
            if (got != want) {
                wrong++;
                if (wrong <= 20) System.out.println(text(NONE) + " and " + done.size() + " things done: " + call + " answered " + got + ", due is " + want);
            }
        }
    }

    private static void best(Tale tale) {
        int sum = tale.make().night(), number = SILENCE, to = 0;
        for (Sentence s : tale.sentences(false)) {
            for (int set = 1; set < 1 << tale.people; set++) {
                NeverBelieved x = tale.make();
                if (!s.saidTo(x, set)) continue;
                int then = x.night();
                if (then > sum) {
                    sum = then;
                    number = s.number();
                    to = set;
                }
            }
        }
        NeverBelieved x = tale.make();
        tale.due("best(0)", x.best(0), sum);
        tale.due("best(1)", x.best(1), number);
        tale.due("best(2)", x.best(2), to);
    }

    private static void emptyAndSaid(Tale tale, int p) {
        int[] many = new int[3], first = {NONE, NONE, NONE};
        for (Sentence s : tale.sentences(false)) {
            NeverBelieved x = tale.make();
            int moved = x.say(1 << p, s.kind, s.f, s.b, s.g, s.c);
            if (moved < 0) continue;
            int did = x.belief(p, tale.deedF[p]) == tale.deedB[p] ? 1 : 0;
            if (many[did]++ == 0) first[did] = s.number();
            if (moved == 0 && many[2]++ == 0) first[2] = s.number();
        }
        NeverBelieved x = tale.make();
        for (int did = 0; did < 2; did++) {
            tale.due("said(" + p + ", " + did + ", 0)", x.said(p, did, 0), many[did]);
            tale.due("said(" + p + ", " + did + ", 1)", x.said(p, did, 1), first[did]);
        }
        tale.due("empty(" + p + ", 0)", x.empty(p, 0), many[2]);
        tale.due("empty(" + p + ", 1)", x.empty(p, 1), first[2]);
    }

    private static void sure(Tale tale, int[] facts, int[] prices) {
        List<Integer> ends = new ArrayList<>();
        NeverBelieved silent = tale.make();
        silent.night();
        ends.add(silent.count(5));
        for (Sentence s : tale.sentences(false)) {
            for (int p = 0; p < tale.people; p++) {
                NeverBelieved x = tale.make();
                if (!s.saidTo(x, 1 << p)) continue;
                x.night();
                ends.add(x.count(5));
            }
        }
        int most = 0, least = 0;
        for (int set = 1; set < 1 << facts.length; set++) {
            int worst = Integer.MAX_VALUE;
            for (int end : ends) {
                int win = 0;
                for (int k = 0; k < facts.length; k++) {
                    if ((set >> k & 1) == 1) win += (end >> facts[k] & 1) * 100 - prices[k];
                }
                worst = Math.min(worst, win);
            }
            if (worst > most) {
                most = worst;
                least = set;
            }
        }
        NeverBelieved x = tale.make();
        for (int k = 0; k < facts.length; k++) x.bet(facts[k], prices[k]);
        tale.due("sure(0)", x.sure(0), most);
        tale.due("sure(1)", x.sure(1), least);
    }

    /** The most behind the last of so many days, when this was said to one (null: nothing) on the first. */
    private static int mostBehind(Tale tale, int days, Sentence first, int p) {
        if (days == 1) return first == null || first.saidTo(tale.make(), 1 << p) ? behind(tale, first, p, null, 0, 1) : NONE;
        int most = behind(tale, first, p, null, 0, 2);
        if (most == NONE) return NONE;
        for (Sentence second : tale.sentences(true)) {
            for (int q = 0; q < tale.people; q++) most = Math.max(most, behind(tale, first, p, second, q, 2));
        }
        return most;
    }

    private static int behind(Tale tale, Sentence first, int p, Sentence second, int q, int days) {
        NeverBelieved x = tale.make();
        if (first != null && !first.saidTo(x, 1 << p)) return NONE;
        int sum = x.night();
        if (days == 1) return sum;
        if (second != null && !second.saidTo(x, 1 << q)) return NONE;
        return x.night();
    }

    private static void plan(Tale tale, int days) {
        int sum = mostBehind(tale, days, null, 0), number = SILENCE, to = NONE;
        for (Sentence s : tale.sentences(true)) {
            for (int p = 0; p < tale.people; p++) {
                int then = mostBehind(tale, days, s, p);
                if (then > sum) {
                    sum = then;
                    number = s.number();
                    to = p;
                }
            }
        }
        NeverBelieved x = tale.make();
        tale.due("plan(" + days + ", 0)", x.plan(days, 0), sum);
        tale.due("plan(" + days + ", 1)", x.plan(days, 1), number);
        tale.due("plan(" + days + ", 2)", x.plan(days, 2), to);
    }

    private static void coming(Tale tale) {
        NeverBelieved x = tale.make(), y = tale.make();
        for (int n = 1; n <= 20; n++) {
            int sum = y.night();
            tale.due("coming(" + n + ", 1)", x.coming(n, 1), sum);
            tale.due("coming(" + n + ", 0)", x.coming(n, 0), y.count(5));
        }
    }

    /** Cities in which nothing was done: a siege is then one told with the contrary of a fact. */
    private static void sieges(Tale tale, int z) {
        int none = 0, seer = 0;
        for (int k = 0; k < 9; k++) {
            long x = 7919L * z + 6151L * k + 1;
            NeverBelieved turned = tale.make((int) (x * x % 65521 % tale.facts));
            if (turned.coming(1, 1) >= 9999) none++;
            if (turned.best(0) >= 9999) seer++;
            NeverBelieved asked = tale.make(NONE);
            tale.due("sieges(" + z + ", " + (k + 1) + ", 0)", asked.sieges(z, k + 1, 0), none);
            tale.due("sieges(" + z + ", " + (k + 1) + ", 1)", asked.sieges(z, k + 1, 1), seer);
        }
    }

    private static void foretold(Random random, int facts, int people, boolean twoDays) {
        Tale tale = new Tale(random, facts, people);
        cities++;
        best(tale);
        for (int p = 0; p < people; p++) emptyAndSaid(tale, p);
        int[] on = new int[random.nextInt(6)], prices = new int[on.length];
        for (int k = 0; k < on.length; k++) {
            on[k] = random.nextInt(facts);
            prices[k] = random.nextInt(100);
        }
        sure(tale, on, prices);
        plan(tale, 1);
        if (twoDays) plan(tale, 2);
        coming(tale);
        sieges(tale, random.nextInt(10000));
    }

    public static void main(String[] args) {
        Random random = new Random(11);
        for (int n = 0; n < 150; n++) foretold(random, 1 + n % 3, 1 + n / 3 % 3, true);
        for (int n = 0; n < 8; n++) foretold(random, 6, 5, n < 2);
        System.out.println(cities + " cities foretold and lived through, " + wrong + " answers are not as due");
        if (wrong != 0) System.exit(1);
    }
}
