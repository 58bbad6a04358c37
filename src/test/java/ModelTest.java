import java.util.ArrayList;
import java.util.Arrays;
import java.util.Deque;
import java.util.ArrayDeque;
import java.util.HashMap;
import java.util.List;
import java.util.Map;
import java.util.Random;
import java.util.regex.Matcher;
import java.util.regex.Pattern;

/**
 * Long runs of drawn calls, each answer held against a model that follows the document word by word:
 * it copies whole cities, says every sentence to every set and lets every night come, without a short cut.
 */
public final class ModelTest {
    private static final int NONE = -1, UNKNOWN = -2, OUTSIDE = -3, NOT = -4, FULL = -5;
    private static int wrong = 0;
    private static long calls = 0;

    /** What can change by saying, by nights. */
    static final class State {
        int[] now = new int[0];
        List<Map<Integer, Integer>> minds = new ArrayList<>();
        int day = 0;

        State copy() {
            State s = new State();
            s.now = now.clone();
            for (Map<Integer, Integer> mind : minds) s.minds.add(new HashMap<>(mind));
            s.day = day;
            return s;
        }
    }

    record Sentence(int kind, int f, int b, int g, int c) {
        int number() { return 10000 * kind + 1000 * f + 100 * b + 10 * g + c; }
    }

    static final class Model {
        final StringBuilder text = new StringBuilder();
        final List<int[]> facts = new ArrayList<>();   // kind, worth, told
        final List<int[]> people = new ArrayList<>();  // kind, F, B, G, C, depth
        final List<int[]> causes = new ArrayList<>();  // F, B, G, C
        final List<int[]> bets = new ArrayList<>();    // fact, price
        State state = new State();
        final Deque<State> past = new ArrayDeque<>();
        final State[] kept = new State[2];

        // ---- the text

        private static final Map<String, String> WANTED = Map.of("city", "", "good", "VB", "bad", "VB",
                "doubter", "FBFB", "child", "FBFB", "knower", "FBFBD", "interpreter", "FBFB", "cause", "FBFB", "still", "");
        private static final List<String> KINDS = List.of("doubter", "child", "knower", "interpreter");

        /** The clauses; or the place of the fault, in a list of one row of one number, negative by one. */
        private int read(List<List<String>> clauses) {
            List<String> tokens = new ArrayList<>();
            List<Integer> places = new ArrayList<>();
            Matcher m = Pattern.compile("[a-z]+|[0-9]+|[^a-z0-9 ]", Pattern.DOTALL).matcher(text);
            while (m.find()) {
                tokens.add(m.group());
                places.add(m.start());
            }
            tokens.add("END");
            places.add(text.length());
            int nFacts = facts.size(), nPeople = people.size(), nCauses = causes.size();
            int t = 0;
            while (true) {
                String word = tokens.get(t);
                if (!WANTED.containsKey(word)) return places.get(t);
                boolean fact = word.equals("good") || word.equals("bad");
                if (fact && nFacts == 6 || KINDS.contains(word) && nPeople == 5 || word.equals("cause") && nCauses == 6) {
                    return places.get(t);
                }
                List<String> clause = new ArrayList<>(List.of(word));
                t++;
                for (char want : WANTED.get(word).toCharArray()) {
                    String number = tokens.get(t);
                    if (!number.matches("[0-9]{1,2}")) return places.get(t);
                    int most = want == 'V' ? 40 : want == 'B' ? 1 : want == 'D' ? 3 : nFacts - 1;
                    if (Integer.parseInt(number) > most) return places.get(t);
                    clause.add(number);
                    t++;
                }
                if (fact) nFacts++;
                if (KINDS.contains(word)) nPeople++;
                if (word.equals("cause")) nCauses++;
                if (word.equals("city")) nFacts = nPeople = 0;
                if (word.equals("city") || word.equals("still")) nCauses = 0;
                clauses.add(clause);
                if (tokens.get(t).equals("END")) return NONE;
                if (!tokens.get(t).equals(";") || clauses.size() == 14) return places.get(t);
                t++;
            }
        }

        int write(int letter) {
            if (letter < 0 || letter > 255) return OUTSIDE;
            if (text.length() == 160) return FULL;
            text.append((char) letter);
            return text.length();
        }

        int erase() {
            int had = text.length();
            text.setLength(0);
            return had;
        }

        int fault() { return read(new ArrayList<>()); }

        int city() {
            List<List<String>> clauses = new ArrayList<>();
            if (read(clauses) != NONE) return NOT;
            for (List<String> clause : clauses) perform(clause);
            state = new State();
            state.now = facts.stream().mapToInt(f -> f[2]).toArray();
            for (int p = 0; p < people.size(); p++) state.minds.add(new HashMap<>());
            bets.clear();
            past.clear();
            Arrays.fill(kept, null);
            text.setLength(0);
            return clauses.size();
        }

        private void perform(List<String> clause) {
            String word = clause.get(0);
            int[] n = clause.stream().skip(1).mapToInt(Integer::parseInt).toArray();
            switch (word) {
                case "city" -> { facts.clear(); people.clear(); causes.clear(); }
                case "still" -> causes.clear();
                case "cause" -> causes.add(n);
                case "good" -> facts.add(new int[] {0, n[0], n[1]});
                case "bad" -> facts.add(new int[] {1, n[0], n[1]});
                default -> people.add(new int[] {KINDS.indexOf(word), n[0], n[1], n[2], n[3], n.length > 4 ? n[4] : 0});
            }
        }

        // ---- asked

        private boolean noFact(int f) { return f < 0 || f >= facts.size(); }
        private boolean noOne(int p) { return p < 0 || p >= people.size(); }
        private static boolean in(int n, int least, int most) { return n >= least && n <= most; }

        int fact(int f, int what) {
            if (noFact(f)) return UNKNOWN;
            if (!in(what, 0, 2)) return OUTSIDE;
            return what == 2 ? state.now[f] : facts.get(f)[what];
        }

        int one(int p, int what) { return noOne(p) ? UNKNOWN : !in(what, 0, 5) ? OUTSIDE : people.get(p)[what]; }

        int cause(int k, int what) {
            return k < 0 || k >= causes.size() ? UNKNOWN : !in(what, 0, 3) ? OUTSIDE : causes.get(k)[what];
        }

        int belief(int p, int f) { return noOne(p) || noFact(f) ? UNKNOWN : state.minds.get(p).getOrDefault(f, NONE); }

        private boolean believes(int p) {
            int kind = people.get(p)[0];
            return kind == 1 || kind == 2 && (people.get(p)[5] == 1 || people.get(p)[5] == 3);
        }

        int as(int p, int kind) {
            if (noOne(p)) return UNKNOWN;
            if (!in(kind, 0, 4)) return OUTSIDE;
            List<List<Integer>> are = List.of(List.of(0, 1), List.of(0, 2), List.of(0, 1, 3), List.of(0, 1, 4));
            if (!are.get(people.get(p)[0]).contains(kind)) return NOT;
            return believes(p) ? 1 : 0;
        }

        int sayingAs(int saying, int kind) {
            if (!in(saying, 0, 4) || !in(kind, 0, 6)) return OUTSIDE;
            List<List<Integer>> are = List.of(List.of(0, 1), List.of(0, 3, 4), List.of(0, 3, 5), List.of(0, 3, 5, 6), List.of(0, 1, 2));
            if (!are.get(saying).contains(kind)) return NOT;
            return saying == 0 || saying == 4 ? 1 : 2;
        }

        // ---- sentences and nights

        private int sum(State s) {
            int sum = 0;
            for (int f = 0; f < facts.size(); f++) {
                if (s.now[f] == 1) sum += facts.get(f)[0] == 0 ? facts.get(f)[1] : -facts.get(f)[1];
            }
            return sum;
        }

        private boolean does(State s, int p) {
            int[] one = people.get(p);
            return Integer.valueOf(one[2]).equals(s.minds.get(p).get(one[1]));
        }

        private void nightOf(State s) {
            for (int p = 0; p < people.size(); p++) {
                if (does(s, p)) s.now[people.get(p)[3]] = people.get(p)[4];
            }
            for (int[] cause : causes) {
                if (s.now[cause[0]] == cause[1]) s.now[cause[2]] = cause[3];
            }
            s.day++;
        }

        private static boolean thinks(Map<Integer, Integer> mind, int f, int b) {
            return mind.containsKey(f) && mind.get(f) == b;
        }

        private static void hear(Map<Integer, Integer> mind, Sentence s, boolean believes) {
            int f = s.f, b = s.b, g = s.g, c = s.c;
            if (s.kind == 0 || s.kind == 4) {
                mind.put(f, believes ? b : 1 - b);
            } else if (s.kind == 1 && believes) {
                mind.put(f, b);
                mind.put(g, c);
            } else if (s.kind == 1) {
                if (thinks(mind, f, b)) mind.put(g, 1 - c);
                else if (thinks(mind, g, c)) mind.put(f, 1 - b);
            } else if (s.kind == 2 && believes) {
                if (thinks(mind, f, 1 - b)) mind.put(g, c);
                else if (thinks(mind, g, 1 - c)) mind.put(f, b);
            } else if (s.kind == 2) {
                mind.put(f, 1 - b);
                mind.put(g, 1 - c);
            } else if (believes) {
                if (thinks(mind, f, b)) mind.put(g, c);
                else if (thinks(mind, g, 1 - c)) mind.put(f, 1 - b);
            } else {
                mind.put(f, b);
                mind.put(g, 1 - c);
            }
        }

        private State saidTo(State s, Sentence sentence, int set) {
            State t = s.copy();
            boolean interpreted = false;
            for (int p = 0; p < people.size(); p++) {
                if ((set >> p & 1) == 1 && people.get(p)[0] == 3) interpreted = true;
            }
            for (int p = 0; p < people.size(); p++) {
                if ((set >> p & 1) == 1) hear(t.minds.get(p), sentence, believes(p));
                else if (interpreted) hear(t.minds.get(p), sentence, true);
            }
            return t;
        }

        private State behind(State s) {
            State t = s.copy();
            nightOf(t);
            return t;
        }

        private boolean isSo(State s, Sentence x, int set) {
            boolean one = s.now[x.f] == x.b, other = s.now[x.g] == x.c;
            return switch (x.kind) {
                case 0 -> one;
                case 1 -> one && other;
                case 2 -> one || other;
                case 3 -> !one || other;
                default -> behind(saidTo(s, x, set)).now[x.f] == x.b;
            };
        }

        private int refusal(int kind, int f, int b, int g, int c) {
            boolean pair = in(kind, 1, 3);
            if (!in(kind, 0, 4)) return OUTSIDE;
            if (noFact(f) || pair && (noFact(g) || g == f)) return UNKNOWN;
            return !in(b, 0, 1) || pair && !in(c, 0, 1) ? OUTSIDE : 0;
        }

        private static Sentence of(int kind, int f, int b, int g, int c) {
            return in(kind, 1, 3) ? new Sentence(kind, f, b, g, c) : new Sentence(kind, f, b, 0, 0);
        }

        int so(int kind, int f, int b, int g, int c) {
            int refusal = refusal(kind, f, b, g, c);
            if (refusal != 0) return refusal;
            return isSo(state, of(kind, f, b, g, c), (1 << people.size()) - 1) ? 1 : 0;
        }

        private void remember() {
            past.push(state.copy());
            if (past.size() > 8) past.removeLast();
        }

        int say(int set, int kind, int f, int b, int g, int c) {
            if (!in(set, 1, (1 << people.size()) - 1)) return OUTSIDE;
            int refusal = refusal(kind, f, b, g, c);
            if (refusal != 0) return refusal;
            Sentence x = of(kind, f, b, g, c);
            if (!isSo(state, x, set)) return NOT;
            State t = saidTo(state, x, set);
            int moved = 0;
            for (int p = 0; p < people.size(); p++) {
                if (!t.minds.get(p).equals(state.minds.get(p))) moved |= 1 << p;
            }
            remember();
            state = t;
            return moved;
        }

        int night() {
            if (state.day == 999) return FULL;
            remember();
            nightOf(state);
            return sum(state) + 9999;
        }

        int undo() {
            if (past.isEmpty()) return NOT;
            state = past.pop();
            return past.size();
        }

        int keep(int k) {
            if (!in(k, 0, 1)) return UNKNOWN;
            kept[k] = state.copy();
            return state.day;
        }

        int back(int k) {
            if (!in(k, 0, 1)) return UNKNOWN;
            if (kept[k] == null) return NOT;
            state = kept[k].copy();
            past.clear();
            return state.day;
        }

        // ---- foretold

        private int bits(State s) {
            int bits = 0;
            for (int f = 0; f < facts.size(); f++) bits |= s.now[f] << f;
            return bits;
        }

        private List<Sentence> sentences() {
            List<Sentence> all = new ArrayList<>();
            int n = facts.size();
            for (int kind = 0; kind < 5; kind++) {
                for (int f = 0; f < n; f++) {
                    for (int b = 0; b < 2; b++) {
                        if (!in(kind, 1, 3)) all.add(new Sentence(kind, f, b, 0, 0));
                        for (int g = 0; g < n && in(kind, 1, 3); g++) {
                            for (int c = 0; c < 2 && g != f; c++) all.add(new Sentence(kind, f, b, g, c));
                        }
                    }
                }
            }
            all.sort((x, y) -> Integer.compare(x.number(), y.number()));
            return all;
        }

        int coming(int n, int what) {
            if (!in(n, 1, 20) || !in(what, 0, 1)) return OUTSIDE;
            State s = state.copy();
            for (int k = 0; k < n; k++) nightOf(s);
            return what == 0 ? bits(s) : sum(s) + 9999;
        }

        private int[] bestOf(State s) {
            int[] best = {sum(behind(s)), NONE, 0};
            for (Sentence x : sentences()) {
                for (int set = 1; set < 1 << people.size(); set++) {
                    if (!isSo(s, x, set)) continue;
                    int then = sum(behind(saidTo(s, x, set)));
                    if (then > best[0]) best = new int[] {then, x.number(), set};
                }
            }
            return best;
        }

        int best(int what) {
            if (!in(what, 0, 2)) return OUTSIDE;
            int[] best = bestOf(state);
            return what == 0 ? best[0] + 9999 : best[what];
        }

        private static int told(List<Integer> found, int what) {
            return what == 0 ? found.size() : found.isEmpty() ? NONE : found.get(0);
        }

        int empty(int p, int what) {
            if (noOne(p)) return UNKNOWN;
            if (!in(what, 0, 1)) return OUTSIDE;
            List<Integer> found = new ArrayList<>();
            for (Sentence x : sentences()) {
                if (isSo(state, x, 1 << p) && saidTo(state, x, 1 << p).minds.equals(state.minds)) found.add(x.number());
            }
            return told(found, what);
        }

        int said(int p, int did, int what) {
            if (noOne(p)) return UNKNOWN;
            if (!in(did, 0, 1) || !in(what, 0, 1)) return OUTSIDE;
            List<Integer> found = new ArrayList<>();
            for (Sentence x : sentences()) {
                if (isSo(state, x, 1 << p) && does(saidTo(state, x, 1 << p), p) == (did == 1)) found.add(x.number());
            }
            return told(found, what);
        }

        private int stanceSum(int p, int q, int f, int b, boolean first, boolean second) {
            State s = state.copy();
            s.minds.get(p).put(f, first ? b : 1 - b);
            s.minds.get(q).put(f, second ? b : 1 - b);
            return sum(behind(s));
        }

        int rests(int p, int q, int f, int b, int what) {
            if (noOne(p) || noOne(q) || p == q || noFact(f)) return UNKNOWN;
            if (!in(b, 0, 1) || !in(what, 0, 1)) return OUTSIDE;
            List<Integer> found = new ArrayList<>();
            for (int first = 0; first < 2; first++) {
                for (int second = 0; second < 2; second++) {
                    int here = stanceSum(p, q, f, b, first == 1, second == 1);
                    if (stanceSum(p, q, f, b, first == 0, second == 1) > here) continue;
                    if (stanceSum(p, q, f, b, first == 1, second == 0) > here) continue;
                    found.add(2 * first + second);
                }
            }
            return told(found, what);
        }

        // ---- bets, plans, sieges

        int bet(int f, int price) {
            if (noFact(f)) return UNKNOWN;
            if (!in(price, 0, 99)) return OUTSIDE;
            if (bets.size() == 5) return FULL;
            bets.add(new int[] {f, price});
            return bets.size();
        }

        int call() {
            int were = bets.size();
            bets.clear();
            return were;
        }

        int sure(int what) {
            if (!in(what, 0, 1)) return OUTSIDE;
            List<State> ends = new ArrayList<>(List.of(behind(state)));
            for (Sentence x : sentences()) {
                for (int p = 0; p < people.size(); p++) {
                    if (isSo(state, x, 1 << p)) ends.add(behind(saidTo(state, x, 1 << p)));
                }
            }
            int most = Integer.MIN_VALUE, least = 0;
            for (int set = 0; set < 1 << bets.size(); set++) {
                int worst = Integer.MAX_VALUE;
                for (State end : ends) {
                    int win = 0;
                    for (int k = 0; k < bets.size(); k++) {
                        if ((set >> k & 1) == 1) win += (end.now[bets.get(k)[0]] == 1 ? 100 : 0) - bets.get(k)[1];
                    }
                    worst = Math.min(worst, win);
                }
                if (worst > most) {
                    most = worst;
                    least = set;
                }
            }
            return what == 0 ? most : least;
        }

        private int[] planOf(State s, int d) {
            int[] best = {d == 1 ? sum(behind(s)) : planOf(behind(s), d - 1)[0], NONE, NONE};
            for (Sentence x : sentences()) {
                if (x.kind != 0 && x.kind != 4) continue;
                for (int p = 0; p < people.size(); p++) {
                    if (!isSo(s, x, 1 << p)) continue;
                    State t = behind(saidTo(s, x, 1 << p));
                    int then = d == 1 ? sum(t) : planOf(t, d - 1)[0];
                    if (then > best[0]) best = new int[] {then, x.number(), p};
                }
            }
            return best;
        }

        int plan(int d, int what) {
            if (!in(d, 1, 2) || !in(what, 0, 2)) return OUTSIDE;
            int[] plan = planOf(state, d);
            return what == 0 ? plan[0] + 9999 : plan[what];
        }

        int sieges(int z, int n, int how) {
            if (!in(z, 0, 9999) || !in(n, 0, 9) || !in(how, 0, 2)) return OUTSIDE;
            if (facts.isEmpty()) return NOT;
            int saved = 0;
            for (int k = 0; k < n; k++) {
                java.math.BigInteger x = java.math.BigInteger.valueOf(7919).multiply(java.math.BigInteger.valueOf(z))
                        .add(java.math.BigInteger.valueOf(6151L * k + 1));
                int draw = x.multiply(x).mod(java.math.BigInteger.valueOf(65521)).intValue();
                State s = state.copy();
                s.now[draw % facts.size()] ^= 1;
                if (how == 2) {
                    for (Map<Integer, Integer> mind : s.minds) mind.put((draw / 8) % facts.size(), (draw / 64) % 2);
                }
                int then = how == 1 ? bestOf(s)[0] : sum(behind(s));
                if (then >= 0) saved++;
            }
            return saved;
        }

        int count(int what) {
            return switch (what) {
                case 0 -> facts.size();
                case 1 -> people.size();
                case 2 -> causes.size();
                case 3 -> state.day;
                case 4 -> sum(state) + 9999;
                case 5 -> bits(state);
                case 6 -> state.minds.stream().mapToInt(Map::size).sum();
                case 7 -> bets.size();
                case 8 -> past.size();
                case 9 -> text.length();
                default -> OUTSIDE;
            };
        }
    }

    // ---- the runs

    private static final class Run {
        final Random random;
        final NeverBelieved x = new NeverBelieved();
        final Model model = new Model();
        final StringBuilder log = new StringBuilder();
        boolean fine = true;

        Run(long seed) { random = new Random(seed); }

        void due(String call, int got, int want) {
            calls++;
            log.append(call).append(" -> ").append(want).append('\n');
            if (got != want && fine) {
                fine = false;
                wrong++;
                if (wrong <= 3) System.out.println(log + "answered " + got);
            }
        }

        int upTo(int most) { return random.nextInt(most + 1); }

        /** Mostly within bounds, now and then out of them. */
        int about(int most) {
            int luck = random.nextInt(60);
            if (luck == 0) return -1;
            if (luck == 1) return most + 1;
            if (luck == 2) return random.nextInt();
            return most < 0 ? 0 : upTo(most);
        }

        void text(String text) {
            for (char letter : text.toCharArray()) {
                due("write(" + (int) letter + ")", x.write(letter), model.write(letter));
            }
        }

        String clause(int facts) {
            String four = " " + upTo(facts - 1) + " " + upTo(1) + " " + upTo(facts - 1) + " " + upTo(1);
            return switch (random.nextInt(10)) {
                case 0, 1 -> "doubter" + four;
                case 2, 3 -> "child" + four;
                case 4, 5 -> "knower" + four + " " + upTo(3);
                case 6 -> "interpreter" + four;
                case 7 -> random.nextInt(8) == 0 ? "still" : "cause" + four;
                default -> "cause" + four;
            };
        }

        String wholeText() {
            int facts = 1 + upTo(5);
            int others = upTo(Math.min(8, 13 - facts));
            List<String> clauses = new ArrayList<>();
            if (random.nextInt(4) != 0) clauses.add("city");
            for (int f = 0; f < facts; f++) {
                clauses.add((random.nextInt(3) == 0 ? "bad " : "good ") + upTo(40) + " " + upTo(1));
            }
            for (int k = 0; k < others; k++) clauses.add(clause(facts));
            return String.join(random.nextInt(6) == 0 ? " ; " : ";", clauses);
        }

        String spoiled(String text) {
            StringBuilder spoiled = new StringBuilder(text);
            String signs = " ;;0123456789abcdgotZ\t.";
            for (int n = upTo(2); n >= 0 && spoiled.length() > 0; n--) {
                int at = random.nextInt(spoiled.length());
                switch (random.nextInt(3)) {
                    case 0 -> spoiled.deleteCharAt(at);
                    case 1 -> spoiled.insert(at, signs.charAt(random.nextInt(signs.length())));
                    default -> spoiled.setCharAt(at, signs.charAt(random.nextInt(signs.length())));
                }
            }
            return spoiled.toString();
        }

        void texts() {
            if (random.nextInt(3) == 0) {
                text(spoiled(wholeText()));
                due("fault()", x.fault(), model.fault());
                due("city()", x.city(), model.city());
                due("erase()", x.erase(), model.erase());
            }
            text(wholeText());
            due("fault()", x.fault(), model.fault());
            due("city()", x.city(), model.city());
            due("erase()", x.erase(), model.erase());
            everything();
        }

        void everything() {
            for (int what = -1; what <= 10; what++) due("count(" + what + ")", x.count(what), model.count(what));
            for (int f = 0; f < model.facts.size(); f++) {
                for (int what = 0; what < 3; what++) due("fact(" + f + ", " + what + ")", x.fact(f, what), model.fact(f, what));
                for (int p = 0; p < model.people.size(); p++) due("belief(" + p + ", " + f + ")", x.belief(p, f), model.belief(p, f));
            }
            for (int p = 0; p < model.people.size(); p++) {
                for (int what = 0; what < 6; what++) due("one(" + p + ", " + what + ")", x.one(p, what), model.one(p, what));
                for (int kind = 0; kind < 5; kind++) due("as(" + p + ", " + kind + ")", x.as(p, kind), model.as(p, kind));
            }
            for (int k = 0; k < model.causes.size(); k++) {
                for (int what = 0; what < 4; what++) due("cause(" + k + ", " + what + ")", x.cause(k, what), model.cause(k, what));
            }
        }

        void say() {
            int set = about((1 << model.people.size()) - 1), kind = about(4), f = about(model.facts.size() - 1);
            int b = about(1), g = about(model.facts.size() - 1), c = about(1);
            due("so(" + kind + ", " + f + ", " + b + ", " + g + ", " + c + ")", x.so(kind, f, b, g, c), model.so(kind, f, b, g, c));
            due("say(" + set + ", " + kind + ", " + f + ", " + b + ", " + g + ", " + c + ")",
                    x.say(set, kind, f, b, g, c), model.say(set, kind, f, b, g, c));
        }

        void step(boolean dear) {
            int facts = model.facts.size() - 1, people = model.people.size() - 1;
            int p = about(people), q = about(people), f = about(facts), what = about(1), which = about(2), bit = about(1);
            switch (random.nextInt(dear ? 24 : 18)) {
                case 0, 1, 2, 3, 4 -> say();
                case 5 -> due("night()", x.night(), model.night());
                case 6 -> due("undo()", x.undo(), model.undo());
                case 7 -> { int k = about(1); due("keep(" + k + ")", x.keep(k), model.keep(k)); }
                case 8 -> { int k = about(1); due("back(" + k + ")", x.back(k), model.back(k)); }
                case 9 -> { int n = 1 + about(19); due("coming(" + n + ", " + what + ")", x.coming(n, what), model.coming(n, what)); }
                case 10 -> due("empty(" + p + ", " + what + ")", x.empty(p, what), model.empty(p, what));
                case 11 -> due("said(" + p + ", " + bit + ", " + what + ")", x.said(p, bit, what), model.said(p, bit, what));
                case 12, 13 -> due("rests(" + p + ", " + q + ", " + f + ", " + bit + ", " + what + ")",
                        x.rests(p, q, f, bit, what), model.rests(p, q, f, bit, what));
                case 14 -> { int price = about(99); due("bet(" + f + ", " + price + ")", x.bet(f, price), model.bet(f, price)); }
                case 15 -> {
                    if (random.nextInt(4) == 0) due("call()", x.call(), model.call());
                    int z = about(9999), n = about(9), how = 2 * about(1);
                    due("sieges(" + z + ", " + n + ", " + how + ")", x.sieges(z, n, how), model.sieges(z, n, how));
                }
                case 16 -> { int s = about(4), k = about(6); due("sayingAs(" + s + ", " + k + ")", x.sayingAs(s, k), model.sayingAs(s, k)); }
                case 17 -> everything();
                case 18, 19 -> due("best(" + which + ")", x.best(which), model.best(which));
                case 20, 21 -> due("sure(" + what + ")", x.sure(what), model.sure(what));
                case 22 -> { int d = 1 + about(1); due("plan(" + d + ", " + which + ")", x.plan(d, which), model.plan(d, which)); }
                default -> { int z = about(9999), n = about(2); due("sieges(" + z + ", " + n + ", 1)", x.sieges(z, n, 1), model.sieges(z, n, 1)); }
            }
        }
    }

    public static void main(String[] args) {
        int runs = args.length > 0 ? Integer.parseInt(args[0]) : 400;
        for (int seed = 0; seed < runs; seed++) {
            Run run = new Run(seed);
            for (int part = 0; part < 3; part++) {
                run.texts();
                for (int k = 0; k < 60; k++) run.step(k % 6 == 0);
                run.everything();
            }
        }
        System.out.println(calls + " calls held against the model, " + wrong + " runs go wrong");
        if (wrong != 0) System.exit(1);
    }
}
