import java.util.ArrayList;
import java.util.Arrays;
import java.util.HashMap;
import java.util.List;
import java.util.Map;

/**
 * "Refused, and nothing changes": every number of every call right below its bounds, at them, right above them and at
 * the ends of int; several wrong numbers at once; and of each refused call, and of each that only asks, that nothing
 * has changed: its object is then looked at in every way, beside one that was made alike and not asked.
 */
public final class RefusalTest {
    private static final int NONE = -1, UNKNOWN = -2, OUTSIDE = -3, NOT = -4, FULL = -5;
    private static int wrong = 0;
    private static int refusals = 0;

    private static void due(String call, int got, int want) {
        if (got != want) {
            wrong++;
            if (wrong <= 20) System.out.println(call + " answered " + got + ", due is " + want);
        }
    }

    // ---- the calls

    /** A number that a call takes: its bounds, what it is refused by, and how early (0 first). */
    record Number(int least, int most, int refusal, int rank) {
        boolean takes(int n) {
            return n >= least && n <= most;
        }

        /** What is out of bounds: next to them, at the ends of int, and what would be within, were it cut to fewer bits. */
        List<Integer> wrongOnes() {
            List<Integer> all = new ArrayList<>();
            int[] tried = {least - 1, most + 1, Integer.MIN_VALUE, Integer.MAX_VALUE, least - 2, most + 2, Integer.MIN_VALUE + 1,
                Integer.MAX_VALUE - 1, least + 256, most - 256, least + 65536, most - 65536, least + (1 << 30), most | 1 << 31};
            for (int n : tried) {
                if (!takes(n) && !all.contains(n)) all.add(n);
            }
            return all;
        }

        int[] rightOnes() {
            return new int[] {least, Math.min(least + 1, most), Math.max(most - 1, least), most};
        }
    }

    private static int call(NeverBelieved x, String name, int... a) {
        return switch (name) {
            case "write" -> x.write(a[0]);
            case "erase" -> x.erase();
            case "fault" -> x.fault();
            case "city" -> x.city();
            case "fact" -> x.fact(a[0], a[1]);
            case "one" -> x.one(a[0], a[1]);
            case "cause" -> x.cause(a[0], a[1]);
            case "belief" -> x.belief(a[0], a[1]);
            case "as" -> x.as(a[0], a[1]);
            case "sayingAs" -> x.sayingAs(a[0], a[1]);
            case "so" -> x.so(a[0], a[1], a[2], a[3], a[4]);
            case "say" -> x.say(a[0], a[1], a[2], a[3], a[4], a[5]);
            case "night" -> x.night();
            case "undo" -> x.undo();
            case "keep" -> x.keep(a[0]);
            case "back" -> x.back(a[0]);
            case "coming" -> x.coming(a[0], a[1]);
            case "best" -> x.best(a[0]);
            case "empty" -> x.empty(a[0], a[1]);
            case "said" -> x.said(a[0], a[1], a[2]);
            case "rests" -> x.rests(a[0], a[1], a[2], a[3], a[4]);
            case "bet" -> x.bet(a[0], a[1]);
            case "call" -> x.call();
            case "sure" -> x.sure(a[0]);
            case "plan" -> x.plan(a[0], a[1]);
            case "sieges" -> x.sieges(a[0], a[1], a[2]);
            default -> x.count(a[0]);
        };
    }

    // ---- the objects that are asked

    private static void write(NeverBelieved x, String text) {
        for (int i = 0; i < text.length(); i++) x.write(text.charAt(i));
    }

    private static void tell(NeverBelieved x, String text) {
        write(x, text);
        due("fault() of " + text, x.fault(), NONE);
        x.city();
    }

    /** NEW: nothing at all. SMALL: one of each. TWO: two of each, nothing done. FULL: as much as can be. LETTERS: a full text. */
    enum World {
        NEW(0, 0, 0), SMALL(1, 1, 1), TWO(2, 2, 2), FULL(6, 5, 6), LETTERS(2, 1, 0);

        final int facts, people, causes;

        World(int facts, int people, int causes) {
            this.facts = facts;
            this.people = people;
            this.causes = causes;
        }

        NeverBelieved make() {
            NeverBelieved x = new NeverBelieved();
            switch (this) {
                case SMALL -> makeSmall(x);
                case TWO -> tell(x, "good 3 1;bad 5 0;interpreter 0 1 1 1;knower 1 0 0 0 3;cause 1 1 0 0;cause 0 0 1 0");
                case FULL -> makeFull(x);
                case LETTERS -> {
                    tell(x, "good 3 1;bad 5 0;doubter 0 0 1 1");
                    write(x, "still;good 7 1;bad 9 0");
                    for (int n = x.count(9); n < 160; n++) x.write(' ');
                }
                default -> { }
            }
            return x;
        }

        private static void makeSmall(NeverBelieved x) {
            tell(x, "good 3 1;child 0 1 0 0;cause 0 0 0 0");
            x.keep(0);
            x.say(1, 0, 0, 1, 0, 0);
            x.night();
            x.bet(0, 20);
            write(x, "city;good 4");
        }

        private static void makeFull(NeverBelieved x) {
            tell(x, "good 9 1;bad 5 0;good 7 1;bad 3 1;good 8 0;good 6 1;doubter 0 0 1 1;child 3 1 4 1;knower 5 1 2 0 1;knower 2 0 3 0 2;interpreter 4 1 0 0");
            tell(x, "cause 0 0 5 0;cause 1 1 4 0;cause 2 0 2 1;cause 3 0 3 0;cause 4 1 4 1;cause 5 0 1 0");
            x.say(1, 0, 2, 1, 0, 0);
            x.night();
            x.keep(1);
            x.say(6, 1, 0, 1, 2, 1);
            x.say(8, 3, 0, 1, 2, 1);
            x.night();
            x.keep(0);
            x.say(16, 0, 4, 0, 0, 0);
            x.say(2, 0, 3, 1, 0, 0);
            x.night();
            x.say(1, 0, 0, 1, 0, 0);
            x.night();
            for (int f = 0; f < 5; f++) x.bet(f, 11 * f);
            write(x, "bad 4 1");
        }
    }

    private static void worlds() {
        int[][] counts = {{0, 0, 0, 0, 0, 0}, {1, 1, 1, 1, 2, 11}, {2, 2, 2, 0, 0, 0}, {6, 5, 6, 5, 8, 7}, {2, 1, 0, 0, 0, 160}};
        int[] whats = {0, 1, 2, 7, 8, 9};
        for (World world : World.values()) {
            for (int i = 0; i < whats.length; i++) {
                due(world + ": count(" + whats[i] + ")", world.make().count(whats[i]), counts[world.ordinal()][i]);
            }
        }
    }

    // ---- all that can be seen

    /** Ways to look at an object, each for itself: some use it up. */
    private static final String[] WAYS = {"asked", "believed", "undone", "kept", "bets", "foretold", "told"};

    private static void seeNow(NeverBelieved x, List<Integer> seen) {
        for (int what = 3; what < 9; what++) seen.add(x.count(what));
        for (int p = 0; p < x.count(1); p++) {
            for (int f = 0; f < x.count(0); f++) seen.add(x.belief(p, f));
        }
    }

    private static void seeTold(NeverBelieved x, List<Integer> seen) {
        for (int what = 0; what < 10; what++) seen.add(x.count(what));
        for (int f = 0; f < 6; f++) {
            for (int what = 0; what < 3; what++) seen.add(x.fact(f, what));
        }
        for (int p = 0; p < 5; p++) {
            for (int what = 0; what < 6; what++) seen.add(x.one(p, what));
        }
        for (int k = 0; k < 6; k++) {
            for (int what = 0; what < 4; what++) seen.add(x.cause(k, what));
        }
    }

    private static void seeForetold(NeverBelieved x, List<Integer> seen) {
        for (int what = 0; what < 3; what++) {
            seen.add(x.best(what));
            seen.add(x.plan(1, what));
            seen.add(x.plan(2, what));
            seen.add(x.sieges(12, 5, what));
        }
        for (int p = 0; p < x.count(1); p++) {
            seen.add(x.empty(p, 0));
            seen.add(x.said(p, 1, 0));
        }
        for (int n = 1; n < 6; n++) seen.add(x.coming(n, 0));
    }

    private static List<Integer> look(NeverBelieved x, String way) {
        List<Integer> seen = new ArrayList<>();
        switch (way) {
            case "asked" -> seeTold(x, seen);
            case "believed" -> seeNow(x, seen);
            case "undone" -> {
                for (int n = 0; n < 9; n++) {
                    seen.addAll(List.of(x.undo(), x.count(3), x.count(5), x.count(6), x.belief(0, 0), x.belief(1, 3)));
                }
            }
            case "kept" -> {
                for (int k = 0; k < 2; k++) {
                    seen.add(x.back(k));
                    seeNow(x, seen);
                }
            }
            case "bets" -> seen.addAll(List.of(x.sure(0), x.sure(1), x.night(), x.sure(0), x.sure(1), x.call(), x.sure(0)));
            case "foretold" -> seeForetold(x, seen);
            default -> {
                seen.addAll(List.of(x.fault(), x.city()));
                seen.addAll(List.of(x.fact(0, 1), x.fact(1, 1), x.fact(2, 1), x.fact(3, 1), x.count(0), x.count(1), x.count(5), x.erase()));
            }
        }
        return seen;
    }

    private static final Map<String, List<Integer>> UNTOUCHED = new HashMap<>();

    /** Asks an object, then looks at it in every way, beside one that was not asked. */
    private static void changesNothing(World world, String name, int want, int... numbers) {
        String call = world + ": " + name + Arrays.toString(numbers);
        for (String way : WAYS) {
            List<Integer> untouched = UNTOUCHED.computeIfAbsent(world + way, key -> look(world.make(), way));
            NeverBelieved x = world.make();
            due(call, call(x, name, numbers), want);
            List<Integer> seen = look(x, way);
            if (!seen.equals(untouched)) {
                due(call + " changed what is " + way + ": " + seen + ", it was " + untouched, 1, 0);
            }
        }
    }

    // ---- numbers out of bounds

    private static Map<String, Number[]> numbersOf(World world) {
        Number fact = new Number(0, world.facts - 1, UNKNOWN, 0), one = new Number(0, world.people - 1, UNKNOWN, 0);
        Number cause = new Number(0, world.causes - 1, UNKNOWN, 0), k = new Number(0, 1, UNKNOWN, 0);
        Map<String, Number[]> all = new HashMap<>();
        all.put("write", new Number[] {upTo(255, 0)});
        all.put("fact", new Number[] {fact, upTo(2, 1)});
        all.put("one", new Number[] {one, upTo(5, 1)});
        all.put("cause", new Number[] {cause, upTo(3, 1)});
        all.put("belief", new Number[] {one, fact});
        all.put("as", new Number[] {one, upTo(4, 1)});
        all.put("sayingAs", new Number[] {upTo(4, 0), upTo(6, 0)});
        all.put("keep", new Number[] {k});
        all.put("back", new Number[] {k});
        all.put("coming", new Number[] {new Number(1, 20, OUTSIDE, 0), upTo(1, 0)});
        all.put("best", new Number[] {upTo(2, 0)});
        all.put("empty", new Number[] {one, upTo(1, 1)});
        all.put("said", new Number[] {one, upTo(1, 1), upTo(1, 1)});
        all.put("rests", new Number[] {one, one, fact, upTo(1, 1), upTo(1, 1)});
        all.put("bet", new Number[] {fact, upTo(99, 1)});
        all.put("sure", new Number[] {upTo(1, 0)});
        all.put("plan", new Number[] {new Number(1, 2, OUTSIDE, 0), upTo(2, 0)});
        all.put("sieges", new Number[] {upTo(9999, 0), upTo(9, 0), upTo(2, 0)});
        all.put("count", new Number[] {upTo(9, 0)});
        Number set = new Number(1, (1 << world.people) - 1, OUTSIDE, -1), kind = upTo(4, 0);
        Number said = new Number(0, world.facts - 1, UNKNOWN, 1), bit = upTo(1, 2);
        all.put("so", new Number[] {kind, said, bit, said, bit});
        all.put("say", new Number[] {set, kind, said, bit, said, bit});
        return all;
    }

    private static Number upTo(int most, int rank) {
        return new Number(0, most, OUTSIDE, rank);
    }

    /** Numbers within bounds, by which every one is asked for: a pair for sentences, two for rests. */
    private static int[] rightNumbers(String name) {
        return switch (name) {
            case "so" -> new int[] {1, 0, 0, 1, 0};
            case "say" -> new int[] {1, 1, 0, 0, 1, 0};
            case "rests" -> new int[] {0, 1, 0, 0, 0};
            case "coming", "plan" -> new int[] {1, 0};
            default -> new int[5];
        };
    }

    /** What bounds refuse these numbers by, the earliest of them; 0, if none does. */
    private static int refusalOf(Number[] bounds, int[] numbers) {
        int refusal = 0, earliest = Integer.MAX_VALUE;
        for (int i = 0; i < bounds.length; i++) {
            if (!bounds[i].takes(numbers[i]) && bounds[i].rank < earliest) {
                earliest = bounds[i].rank;
                refusal = bounds[i].refusal;
            }
        }
        return refusal;
    }

    private static void oneWrong(World world, String name, Number[] bounds) {
        for (int i = 0; i < bounds.length; i++) {
            for (int n : bounds[i].wrongOnes()) {
                int[] numbers = Arrays.copyOf(rightNumbers(name), bounds.length);
                numbers[i] = n;
                refused(world, name, bounds, numbers);
            }
        }
    }

    private static void severalWrong(World world, String name, Number[] bounds) {
        for (int which = 1; which < 1 << bounds.length; which++) {
            for (int turn = 0; turn < 4; turn++) {
                int[] numbers = Arrays.copyOf(rightNumbers(name), bounds.length);
                for (int i = 0; i < bounds.length; i++) {
                    List<Integer> tried = bounds[i].wrongOnes();
                    if ((which >> i & 1) == 1) numbers[i] = tried.get((turn + i) % Math.min(4, tried.size()));
                }
                refused(world, name, bounds, numbers);
            }
        }
    }

    private static void refused(World world, String name, Number[] bounds, int[] numbers) {
        refusals++;
        changesNothing(world, name, refusalOf(bounds, numbers), numbers);
    }

    /** At the bounds themselves no bound refuses it. */
    private static void noneWrong(World world, String name, Number[] bounds) {
        for (int i = 0; i < bounds.length; i++) {
            for (int n : bounds[i].rightOnes()) {
                int[] numbers = Arrays.copyOf(rightNumbers(name), bounds.length);
                numbers[i] = n;
                if (refusalOf(bounds, numbers) != 0 || isOneTwice(name, numbers)) continue;
                int answer = call(world.make(), name, numbers);
                boolean fine = answer != UNKNOWN && answer != OUTSIDE;
                due(world + ": " + name + Arrays.toString(numbers) + " refused by a bound", fine ? 1 : answer, 1);
            }
        }
    }

    private static boolean isOneTwice(String name, int[] n) {
        return name.equals("rests") && n[0] == n[1] || name.equals("so") && n[1] == n[3] || name.equals("say") && n[2] == n[4];
    }

    private static void bounds() {
        for (World world : World.values()) {
            numbersOf(world).forEach((name, bounds) -> {
                oneWrong(world, name, bounds);
                severalWrong(world, name, bounds);
                noneWrong(world, name, bounds);
            });
        }
    }

    // ---- one and itself; g is f; g and c not asked

    private static void oneTwice() {
        for (int p = 0; p < 5; p++) {
            changesNothing(World.FULL, "rests", UNKNOWN, p, p, 0, 0, 0);
            changesNothing(World.FULL, "rests", UNKNOWN, p, p, 5, 2, 2);
        }
        changesNothing(World.SMALL, "rests", UNKNOWN, 0, 0, 0, 0, 0);
        for (int kind = 1; kind <= 3; kind++) {
            for (int f = 0; f < 6; f++) {
                changesNothing(World.FULL, "so", UNKNOWN, kind, f, 1, f, 0);
                changesNothing(World.FULL, "so", UNKNOWN, kind, f, 2, f, -1);
                changesNothing(World.FULL, "say", UNKNOWN, 31, kind, f, 1, f, 0);
                changesNothing(World.FULL, "say", UNKNOWN, 1, kind, f, -1, f, 2);
            }
        }
    }

    private static void notAsked() {
        int[] any = {0, 1, 2, -1, 5, 6, Integer.MIN_VALUE, Integer.MAX_VALUE};
        for (int g : any) {
            for (int c : any) {
                for (int kind = 0; kind <= 4; kind += 4) {
                    changesNothing(World.TWO, "so", World.TWO.make().so(kind, 0, 1, 0, 0), kind, 0, 1, g, c);
                    changesNothing(World.TWO, "so", OUTSIDE, kind, 0, 2, g, c);
                    changesNothing(World.TWO, "so", UNKNOWN, kind, 2, 2, g, c);
                    changesNothing(World.TWO, "say", OUTSIDE, 4, kind, 0, 1, g, c);
                }
                due("say(1, 0, 0, 1, " + g + ", " + c + ")", World.TWO.make().say(1, 0, 0, 1, g, c), 3);
                due("say(2, 4, 1, 0, " + g + ", " + c + ")", World.TWO.make().say(2, 4, 1, 0, g, c), 2);
                changesNothing(World.TWO, "say", NOT, 1, 0, 0, 0, g, c);
            }
        }
    }

    // ---- NOT, FULL

    private static void notNow() {
        changesNothing(World.NEW, "city", NOT);
        changesNothing(World.SMALL, "city", NOT);
        changesNothing(World.NEW, "undo", NOT);
        changesNothing(World.TWO, "undo", NOT);
        for (int k = 0; k < 2; k++) {
            changesNothing(World.NEW, "back", NOT, k);
            changesNothing(World.TWO, "back", NOT, k);
        }
        changesNothing(World.SMALL, "back", NOT, 1);
        for (int how = 0; how < 3; how++) {
            changesNothing(World.NEW, "sieges", NOT, 0, 0, how);
            changesNothing(World.NEW, "sieges", NOT, 9999, 9, how);
        }
        int[][] none = {{0, 2}, {0, 3}, {0, 4}, {1, 1}, {1, 3}, {1, 4}, {2, 2}, {2, 4}, {3, 2}, {3, 4}, {4, 2}, {4, 3}};
        for (int[] pair : none) changesNothing(World.FULL, "as", NOT, pair);
        int[][] noSaying = {{0, 2}, {0, 3}, {1, 1}, {1, 5}, {2, 4}, {2, 6}, {3, 4}, {3, 1}, {4, 3}, {4, 6}};
        for (int[] pair : noSaying) changesNothing(World.NEW, "sayingAs", NOT, pair);
        for (int set = 1; set < 4; set++) {
            changesNothing(World.TWO, "say", NOT, set, 0, 1, 1, 0, 0);
            changesNothing(World.TWO, "say", NOT, set, 1, 0, 1, 1, 1);
            changesNothing(World.TWO, "say", NOT, set, 2, 0, 0, 1, 1);
            changesNothing(World.TWO, "say", NOT, set, 3, 0, 1, 1, 1);
        }
        changesNothing(World.TWO, "say", NOT, 2, 4, 1, 1, 0, 0);
    }

    private static void full() {
        for (int letter : new int[] {0, 1, ';', ' ', 'a', 254, 255}) changesNothing(World.LETTERS, "write", FULL, letter);
        for (int letter : new int[] {-1, 256}) changesNothing(World.LETTERS, "write", OUTSIDE, letter);
        for (int price : new int[] {0, 1, 98, 99}) changesNothing(World.FULL, "bet", FULL, 5, price);
        for (int price : new int[] {-1, 100}) changesNothing(World.FULL, "bet", OUTSIDE, 0, price);
        changesNothing(World.FULL, "bet", UNKNOWN, 6, 0);
    }

    // ---- what only asks

    private static void onlyAsked() {
        String[] asking = {"fact", "one", "cause", "belief", "as", "sayingAs", "so", "coming", "best", "empty", "said", "rests", "sure",
            "plan", "sieges", "count"};
        for (World world : World.values()) {
            changesNothing(world, "fault", world.make().fault());
            for (String name : asking) {
                Number[] bounds = numbersOf(world).get(name);
                for (int turn = 0; turn < 4; turn++) {
                    int[] numbers = Arrays.copyOf(rightNumbers(name), bounds.length);
                    for (int i = 0; i < bounds.length; i++) {
                        if (bounds[i].most >= bounds[i].least) numbers[i] = bounds[i].rightOnes()[(turn + i) % 4];
                    }
                    changesNothing(world, name, call(world.make(), name, numbers), numbers);
                }
            }
        }
    }

    public static void main(String[] args) {
        worlds();
        bounds();
        oneTwice();
        notAsked();
        notNow();
        full();
        onlyAsked();
        System.out.println(refusals + " calls out of bounds, what is not now, what is full, what only asks: " + wrong + " faults");
        if (wrong != 0) System.exit(1);
    }
}
