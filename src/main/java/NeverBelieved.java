/**
 * A seer who can only say what is so, and whom nobody believes: a city of facts, people and causes,
 * told in texts, what she says there, the nights, and what can be foretold of them.
 */
public final class NeverBelieved {
    public static final int NONE = -1, UNKNOWN = -2, OUTSIDE = -3, NOT = -4, FULL = -5;

    /** No refusal: behind the tests of a call's arguments it goes on. */
    private static final int FINE = 0;
    /** Sums are answered with this added, so that none looks like a refusal. */
    private static final int ABOVE = 9999;
    private static final int LAST_DAY = 999;

    /** Which kind each kind is right under (people: 0 .. 4; sentences: 0 .. 6), none for the topmost. */
    private static final int[] OVER_PEOPLE = {NONE, 0, 0, 1, 1};
    private static final int[] OVER_SAYINGS = {NONE, 0, 1, 0, 3, 3, 5};
    /** The place among the kinds over one another of a sentence's kind (IS, BOTH, EITHER, IF, SHALL). */
    private static final int[] PLACE_OF_SAYING = {1, 4, 5, 6, 2};

    private final City place;
    private final Scroll scroll;
    private final Days days;
    private final Bets bets;
    private final Foresight today;
    private final Seer seer;

    public NeverBelieved() {
        place = new City();
        scroll = new Scroll();
        days = new Days();
        bets = new Bets();
        today = new Foresight(place);
        seer = new Seer(place, today, new Foresight(place));
    }

    // ---- what is told

    public int write(int letter) {
        if (letter < 0 || letter > 255) {
            return OUTSIDE;
        }
        return scroll.append(letter) ? scroll.length : FULL;
    }

    public int erase() {
        int had = scroll.length;
        scroll.length = 0;
        return had;
    }

    public int fault() {
        return scroll.firstFault(place);
    }

    public int city() {
        if (scroll.firstFault(place) != NONE) {
            return NOT;
        }
        for (int n = 0; n < scroll.clauses; n++) {
            place.add(scroll.read[n]);
        }
        days.begin(place.told);
        bets.many = 0;
        scroll.length = 0;
        return scroll.clauses;
    }

    public int fact(int fact, int what) {
        if (!place.hasFact(fact)) {
            return UNKNOWN;
        }
        if (what < 0 || what > 2) {
            return OUTSIDE;
        }
        return what == 2 ? days.truth >> fact & 1 : place.facts[fact][what];
    }

    public int one(int one, int what) {
        if (!place.hasOne(one)) {
            return UNKNOWN;
        }
        return what < 0 || what > City.DEPTH ? OUTSIDE : place.people[one][what];
    }

    public int cause(int cause, int what) {
        if (cause < 0 || cause >= place.manyCauses) {
            return UNKNOWN;
        }
        return what < 0 || what > 3 ? OUTSIDE : place.causes[cause][what];
    }

    public int belief(int one, int fact) {
        if (!place.hasOne(one) || !place.hasFact(fact)) {
            return UNKNOWN;
        }
        int mind = Minds.mindOf(days.minds, one);
        return Minds.holds(mind, fact, 0) ? 0 : Minds.holds(mind, fact, 1) ? 1 : NONE;
    }

    public int as(int one, int kind) {
        if (!place.hasOne(one)) {
            return UNKNOWN;
        }
        if (kind < 0 || kind >= OVER_PEOPLE.length) {
            return OUTSIDE;
        }
        // ONE stands ahead of the kinds that are told, so each of these is one further on.
        if (!isUnder(OVER_PEOPLE, place.people[one][City.KIND] + 1, kind)) {
            return NOT;
        }
        return place.believesHer(one) ? 1 : 0;
    }

    public int sayingAs(int saying, int kind) {
        if (saying < 0 || saying >= PLACE_OF_SAYING.length || kind < 0 || kind >= OVER_SAYINGS.length) {
            return OUTSIDE;
        }
        if (!isUnder(OVER_SAYINGS, PLACE_OF_SAYING[saying], kind)) {
            return NOT;
        }
        return Sentence.isPair(saying) ? 2 : 1;
    }

    /** Whether a kind is another or under it, by the row of what each is right under. */
    private static boolean isUnder(int[] over, int kind, int other) {
        int at = kind;
        for (int step = 0; step < over.length && at >= 0 && at < over.length; step++) {
            if (at == other) {
                return true;
            }
            at = over[at];
        }
        return false;
    }

    // ---- said, done

    public int so(int kind, int f, int b, int g, int c) {
        int refusal = refusalOf(kind, f, b, g, c);
        if (refusal != FINE) {
            return refusal;
        }
        today.look(days.truth, days.minds);
        today.sentence.put(kind, f, b, g, c);
        today.listen();
        return today.isSoSaidTo(place.everyone()) ? 1 : 0;
    }

    public int say(int set, int kind, int f, int b, int g, int c) {
        if (set < 1 || set > place.everyone()) {
            return OUTSIDE;
        }
        int refusal = refusalOf(kind, f, b, g, c);
        if (refusal != FINE) {
            return refusal;
        }
        today.look(days.truth, days.minds);
        today.sentence.put(kind, f, b, g, c);
        today.listen();
        if (!today.isSoSaidTo(set)) {
            return NOT;
        }
        long then = today.mindsIfSaidTo(set);
        int moved = Minds.whoDiffer(days.minds, then);
        days.remember();
        days.minds = then;
        return moved;
    }

    private int refusalOf(int kind, int f, int b, int g, int c) {
        if (!Sentence.isKind(kind)) {
            return OUTSIDE;
        }
        boolean pair = Sentence.isPair(kind);
        if (!place.hasFact(f) || pair && (!place.hasFact(g) || g == f)) {
            return UNKNOWN;
        }
        return isBit(b) && (!pair || isBit(c)) ? FINE : OUTSIDE;
    }

    private static boolean isBit(int number) {
        return number == 0 || number == 1;
    }

    public int night() {
        if (days.day >= LAST_DAY) {
            return FULL;
        }
        days.remember();
        days.truth = place.dawn(days.truth, place.doers(days.minds));
        days.day++;
        return place.sumOf(days.truth) + ABOVE;
    }

    public int undo() {
        return days.stepBack() ? days.undoable : NOT;
    }

    public int keep(int k) {
        if (!isBit(k)) {
            return UNKNOWN;
        }
        days.put(Days.PAST + k);
        days.kept |= 1 << k;
        return days.day;
    }

    public int back(int k) {
        if (!isBit(k)) {
            return UNKNOWN;
        }
        if ((days.kept >> k & 1) == 0) {
            return NOT;
        }
        days.take(Days.PAST + k);
        days.undoable = 0;
        return days.day;
    }

    // ---- foretold

    public int coming(int n, int what) {
        if (n < 1 || n > 20 || !isBit(what)) {
            return OUTSIDE;
        }
        int doers = place.doers(days.minds);
        int truth = days.truth;
        for (int k = 0; k < n; k++) {
            truth = place.dawn(truth, doers);
        }
        return what == 0 ? truth : place.sumOf(truth) + ABOVE;
    }

    public int best(int what) {
        if (what < 0 || what > 2) {
            return OUTSIDE;
        }
        seer.seekBest(days.truth, days.minds);
        return what == 0 ? seer.sum + ABOVE : what == 1 ? seer.number : seer.to;
    }

    public int empty(int one, int what) {
        if (!place.hasOne(one)) {
            return UNKNOWN;
        }
        if (!isBit(what)) {
            return OUTSIDE;
        }
        today.look(days.truth, days.minds);
        seer.countEmpty(one);
        return what == 0 ? seer.many : seer.first;
    }

    public int said(int one, int did, int what) {
        if (!place.hasOne(one)) {
            return UNKNOWN;
        }
        if (!isBit(did) || !isBit(what)) {
            return OUTSIDE;
        }
        today.look(days.truth, days.minds);
        seer.countSaid(one, did == 1);
        return what == 0 ? seer.many : seer.first;
    }

    public int rests(int one, int other, int f, int b, int what) {
        if (!place.hasOne(one) || !place.hasOne(other) || one == other || !place.hasFact(f)) {
            return UNKNOWN;
        }
        if (!isBit(b) || !isBit(what)) {
            return OUTSIDE;
        }
        today.look(days.truth, days.minds);
        seer.countRests(days.minds, one, other, f, b);
        return what == 0 ? seer.many : seer.first;
    }

    // ---- bets, plans, sieges

    public int bet(int fact, int price) {
        if (!place.hasFact(fact)) {
            return UNKNOWN;
        }
        if (price < 0 || price > 99) {
            return OUTSIDE;
        }
        return bets.add(fact, price) ? bets.many : FULL;
    }

    public int call() {
        int were = bets.many;
        bets.many = 0;
        return were;
    }

    public int sure(int what) {
        if (!isBit(what)) {
            return OUTSIDE;
        }
        today.look(days.truth, days.minds);
        bets.choose(seer.outcomes());
        return what == 0 ? bets.won : bets.chosen;
    }

    public int plan(int d, int what) {
        if (d < 1 || d > 2 || what < 0 || what > 2) {
            return OUTSIDE;
        }
        seer.seekPlan(days.truth, days.minds, d == 2);
        return what == 0 ? seer.sum + ABOVE : what == 1 ? seer.number : seer.to;
    }

    public int sieges(int z, int n, int how) {
        if (z < 0 || z > 9999 || n < 0 || n > 9 || how < 0 || how > 2) {
            return OUTSIDE;
        }
        if (place.manyFacts == 0) {
            return NOT;
        }
        int saved = 0;
        for (int k = 0; k < n; k++) {
            long x = 7919L * z + 6151L * k + 1;
            int draw = (int) (x * x % 65521);
            if (seer.sumOfSiege(draw, how, days.truth, days.minds) >= 0) {
                saved++;
            }
        }
        return saved;
    }

    public int count(int what) {
        switch (what) {
            case 0: return place.manyFacts;
            case 1: return place.manyPeople;
            case 2: return place.manyCauses;
            case 3: return days.day;
            case 4: return place.sumOf(days.truth) + ABOVE;
            case 5: return days.truth;
            case 6: return Minds.thingsBelieved(days.minds);
            case 7: return bets.many;
            case 8: return days.undoable;
            case 9: return scroll.length;
            default: return OUTSIDE;
        }
    }

    /**
     * What each of the people believes, all in one number, so that what would be believed can be tried
     * without a copy. A mind has 12 bits: 6 for the facts of which he believes something, 6 for what.
     */
    private static final class Minds {
        static final int BITS = 12, WHAT = 6, WHOLE = (1 << BITS) - 1, THINGS = (1 << WHAT) - 1;

        static int mindOf(long minds, int one) {
            return (int) (minds >>> BITS * one) & WHOLE;
        }

        static long withMind(long minds, int one, int mind) {
            return minds & ~((long) WHOLE << BITS * one) | (long) mind << BITS * one;
        }

        static boolean holds(int mind, int fact, int bit) {
            return (mind >> fact & 1) == 1 && (mind >> WHAT + fact & 1) == bit;
        }

        static int hold(int mind, int fact, int bit) {
            int without = mind & ~(1 << WHAT + fact);
            return without | 1 << fact | bit << WHAT + fact;
        }

        static int whoDiffer(long minds, long others) {
            int who = 0;
            for (int p = 0; p < City.MOST_PEOPLE; p++) {
                if (mindOf(minds, p) != mindOf(others, p)) {
                    who |= 1 << p;
                }
            }
            return who;
        }

        static int thingsBelieved(long minds) {
            int things = 0;
            for (int p = 0; p < City.MOST_PEOPLE; p++) {
                things += Integer.bitCount(mindOf(minds, p) & THINGS);
            }
            return things;
        }
    }

    /** The facts, people and causes as told. What is true, and believed, is handed to it: it may be foretold. */
    private static final class City {
        static final int MOST_FACTS = 6, MOST_PEOPLE = 5, MOST_CAUSES = 6;
        static final int CHILD = 1, KNOWER = 2, INTERPRETER = 3;
        /** What stands where in a row of people. */
        static final int KIND = 0, F = 1, B = 2, G = 3, C = 4, DEPTH = 5;

        int manyFacts, manyPeople, manyCauses;
        /** By bits: which facts were told as true, who is an interpreter. */
        int told, interpreters;
        final int[][] facts = new int[MOST_FACTS][2];
        final int[][] people = new int[MOST_PEOPLE][6];
        final int[][] causes = new int[MOST_CAUSES][4];

        boolean hasFact(int fact) {
            return fact >= 0 && fact < manyFacts;
        }

        boolean hasOne(int one) {
            return one >= 0 && one < manyPeople;
        }

        int everyone() {
            return (1 << manyPeople) - 1;
        }

        /** Does one clause: its word, then its numbers. */
        void add(int[] clause) {
            int word = clause[0];
            if (word == Scroll.CITY) {
                clear();
            } else if (word == Scroll.STILL) {
                manyCauses = 0;
            } else if (word == Scroll.CAUSE) {
                addCause(clause);
            } else if (Scroll.isOfFact(word)) {
                addFact(word - Scroll.GOOD, clause[1], clause[2]);
            } else {
                addOne(word - Scroll.DOUBTER, clause);
            }
        }

        private void clear() {
            manyFacts = 0;
            manyPeople = 0;
            manyCauses = 0;
            told = 0;
            interpreters = 0;
        }

        private void addFact(int kind, int worth, int bit) {
            if (manyFacts >= MOST_FACTS) {
                return;
            }
            facts[manyFacts][0] = kind;
            facts[manyFacts][1] = worth;
            told |= bit << manyFacts;
            manyFacts++;
        }

        private void addOne(int kind, int[] clause) {
            if (manyPeople >= MOST_PEOPLE) {
                return;
            }
            int[] row = people[manyPeople];
            row[KIND] = kind;
            System.arraycopy(clause, 1, row, F, 4);
            row[DEPTH] = kind == KNOWER ? clause[5] : 0;
            if (kind == INTERPRETER) {
                interpreters |= 1 << manyPeople;
            }
            manyPeople++;
        }

        private void addCause(int[] clause) {
            if (manyCauses >= MOST_CAUSES) {
                return;
            }
            System.arraycopy(clause, 1, causes[manyCauses], 0, 4);
            manyCauses++;
        }

        /** Whether one believes what is said to him. */
        boolean believesHer(int one) {
            int[] row = people[one];
            return row[KIND] == CHILD || row[KIND] == KNOWER && row[DEPTH] % 2 == 1;
        }

        boolean doesDeed(int one, int mind) {
            return Minds.holds(mind, people[one][F], people[one][B]);
        }

        /** By bits, who does his deed. Nothing is believed anew by night, so this is settled ahead of it. */
        int doers(long minds) {
            int who = 0;
            for (int p = 0; p < manyPeople; p++) {
                if (doesDeed(p, Minds.mindOf(minds, p))) {
                    who |= 1 << p;
                }
            }
            return who;
        }

        /** What is true behind a night in which these do their deeds. */
        int dawn(int truth, int doers) {
            int now = truth;
            for (int p = 0; p < manyPeople; p++) {
                if ((doers >> p & 1) == 1) {
                    now = become(now, people[p][G], people[p][C]);
                }
            }
            for (int k = 0; k < manyCauses; k++) {
                int[] row = causes[k];
                if ((now >> row[0] & 1) == row[1]) {
                    now = become(now, row[2], row[3]);
                }
            }
            return now;
        }

        private static int become(int truth, int fact, int bit) {
            return truth & ~(1 << fact) | bit << fact;
        }

        int sumOf(int truth) {
            int sum = 0;
            for (int f = 0; f < manyFacts; f++) {
                if ((truth >> f & 1) == 1) {
                    sum += facts[f][0] == 0 ? facts[f][1] : -facts[f][1];
                }
            }
            return sum;
        }
    }

    /** The text, and its reading to the first fault. */
    private static final class Scroll {
        static final int MOST_LETTERS = 160, MOST_CLAUSES = 14;
        /** The words, by their numbers. */
        static final int CITY = 0, GOOD = 1, BAD = 2, DOUBTER = 3, CHILD = 4, KNOWER = 5, INTERPRETER = 6,
                CAUSE = 7, STILL = 8, WORDS = 9;
        /** What a token can be. */
        private static final int END = 0, WORD = 1, NUMBER = 2, OTHER = 3;

        private final int[] letters = new int[MOST_LETTERS];
        int length;
        /** The clauses read: the word, then its numbers. */
        final int[][] read = new int[MOST_CLAUSES][6];
        int clauses;
        /** The token looked at: its first letter, the letter behind it, what it is. */
        private int start, behind, sort;
        /** How many there are behind the clauses ahead. */
        private int facts, people, causes;

        boolean append(int letter) {
            if (length >= MOST_LETTERS) {
                return false;
            }
            letters[length] = letter;
            length++;
            return true;
        }

        static boolean isOfFact(int word) {
            return word == GOOD || word == BAD;
        }

        int firstFault(City city) {
            facts = city.manyFacts;
            people = city.manyPeople;
            causes = city.manyCauses;
            clauses = 0;
            behind = 0;
            for (int n = 0; n < MOST_CLAUSES; n++) {
                nextToken();
                if (!readClause(read[n])) {
                    return start;
                }
                clauses++;
                nextToken();
                if (sort == END) {
                    return NONE;
                }
                if (letters[start] != ';') {
                    return start;
                }
            }
            // No clause may follow the last of them, so the ; behind it cannot stand there.
            return start;
        }

        private void nextToken() {
            start = behind;
            while (start < length && letters[start] == ' ') {
                start++;
            }
            behind = start;
            sort = END;
            if (start >= length) {
                return;
            }
            sort = sortOf(letters[start]);
            behind++;
            while (sort != OTHER && behind < length && sortOf(letters[behind]) == sort) {
                behind++;
            }
        }

        private static int sortOf(int letter) {
            if (letter >= 'a' && letter <= 'z') {
                return WORD;
            }
            return letter >= '0' && letter <= '9' ? NUMBER : OTHER;
        }

        /** Reads a clause from its word, the token looked at; false at the first that cannot stand there. */
        private boolean readClause(int[] row) {
            int word = wordOfToken();
            if (word == NONE || !hasRoomFor(word)) {
                return false;
            }
            row[0] = word;
            String wanted = numbersOf(word);
            for (int i = 0; i < wanted.length() && i + 1 < row.length; i++) {
                nextToken();
                int number = numberOfToken();
                if (number == NONE || number > mostOf(wanted.charAt(i))) {
                    return false;
                }
                row[i + 1] = number;
            }
            countIn(word);
            return true;
        }

        private int wordOfToken() {
            if (sort != WORD) {
                return NONE;
            }
            for (int word = 0; word < WORDS; word++) {
                if (isToken(textOf(word))) {
                    return word;
                }
            }
            return NONE;
        }

        private boolean isToken(String text) {
            if (text.length() != behind - start) {
                return false;
            }
            for (int i = 0; i < text.length(); i++) {
                if (text.charAt(i) != letters[start + i]) {
                    return false;
                }
            }
            return true;
        }

        /** The number that the token is; NONE, if it is none, or of more than 2 digits. */
        private int numberOfToken() {
            if (sort != NUMBER || behind - start > 2) {
                return NONE;
            }
            int number = 0;
            for (int i = start; i < behind; i++) {
                number = 10 * number + letters[i] - '0';
            }
            return number;
        }

        private static String textOf(int word) {
            switch (word) {
                case CITY: return "city";
                case GOOD: return "good";
                case BAD: return "bad";
                case DOUBTER: return "doubter";
                case CHILD: return "child";
                case KNOWER: return "knower";
                case INTERPRETER: return "interpreter";
                case CAUSE: return "cause";
                default: return "still";
            }
        }

        /** The numbers behind a word: v a worth, b a bit, f a fact, d a depth. */
        private static String numbersOf(int word) {
            switch (word) {
                case CITY:
                case STILL: return "";
                case GOOD:
                case BAD: return "vb";
                case KNOWER: return "fbfbd";
                default: return "fbfb";
            }
        }

        private int mostOf(char number) {
            switch (number) {
                case 'v': return 40;
                case 'b': return 1;
                case 'd': return 3;
                default: return facts - 1;
            }
        }

        private boolean hasRoomFor(int word) {
            if (word == CITY || word == STILL) {
                return true;
            }
            if (isOfFact(word)) {
                return facts < City.MOST_FACTS;
            }
            return word == CAUSE ? causes < City.MOST_CAUSES : people < City.MOST_PEOPLE;
        }

        private void countIn(int word) {
            if (word == CITY) {
                facts = 0;
                people = 0;
                causes = 0;
            } else if (word == STILL) {
                causes = 0;
            } else if (word == CAUSE) {
                causes++;
            } else if (isOfFact(word)) {
                facts++;
            } else {
                people++;
            }
        }
    }

    /** What is true and believed now, what it was ahead of the last things done, and what was kept. */
    private static final class Days {
        /** So many can be undone. The two places behind these are for what is kept. */
        static final int PAST = 8;

        int truth, day, undoable;
        long minds;
        /** By bits, which of the two was kept. */
        int kept;
        private int newest;
        private final int[] truths = new int[PAST + 2];
        private final long[] allMinds = new long[PAST + 2];
        private final int[] dates = new int[PAST + 2];

        void begin(int told) {
            truth = told;
            minds = 0;
            day = 0;
            undoable = 0;
            kept = 0;
        }

        void put(int at) {
            if (at < 0 || at >= truths.length) {
                return;
            }
            truths[at] = truth;
            allMinds[at] = minds;
            dates[at] = day;
        }

        void take(int at) {
            if (at < 0 || at >= truths.length) {
                return;
            }
            truth = truths[at];
            minds = allMinds[at];
            day = dates[at];
        }

        /** The places of the past go round, so that the oldest is written over. */
        void remember() {
            newest = (newest + 1) % PAST;
            put(newest);
            undoable = Math.min(undoable + 1, PAST);
        }

        boolean stepBack() {
            if (undoable == 0) {
                return false;
            }
            take(newest);
            newest = (newest + PAST - 1) % PAST;
            undoable--;
            return true;
        }
    }

    /** A sentence: used again for one after the other. */
    private static final class Sentence {
        static final int IS = 0, BOTH = 1, EITHER = 2, IF = 3, SHALL = 4, KINDS = 5;
        /** Places for all sentences of 6 facts, in the order of their numbers; not at each stands one. */
        static final int PLACES = KINDS * 6 * 2 * 6 * 2;
        /** So many of these are for IS and SHALL. */
        static final int SINGLES = 2 * 6 * 2;

        int kind, f, b, g, c;

        static boolean isKind(int kind) {
            return kind >= IS && kind < KINDS;
        }

        static boolean isPair(int kind) {
            return kind == BOTH || kind == EITHER || kind == IF;
        }

        void put(int kind, int f, int b, int g, int c) {
            boolean pair = isPair(kind);
            this.kind = kind;
            this.f = f;
            this.b = b;
            this.g = pair ? g : 0;
            this.c = pair ? c : 0;
        }

        /** Becomes the one at a place; false, if with so many facts none stands there. */
        boolean comeTo(int at, int facts) {
            kind = at / 144;
            f = at / 24 % 6;
            b = at / 12 % 2;
            g = at / 2 % 6;
            c = at % 2;
            if (f >= facts) {
                return false;
            }
            return isPair(kind) ? g < facts && g != f : g == 0 && c == 0;
        }

        /** The place of one of those that tell of a single fact, in their order. */
        static int placeOfSingle(int n) {
            int kind = n < SINGLES / 2 ? IS : SHALL;
            return 144 * kind + 24 * (n / 2 % 6) + 12 * (n % 2);
        }

        int number() {
            return 10000 * kind + 1000 * f + 100 * b + 10 * g + c;
        }

        /** Whether it is so of what is true; SHALL, of what is true behind the night. */
        boolean stands(int truth) {
            boolean one = (truth >> f & 1) == b;
            boolean other = (truth >> g & 1) == c;
            switch (kind) {
                case BOTH: return one && other;
                case EITHER: return one || other;
                case IF: return !one || other;
                default: return one;
            }
        }

        /** The mind of one who believes it. */
        int believed(int mind) {
            switch (kind) {
                case BOTH: return Minds.hold(Minds.hold(mind, f, b), g, c);
                case EITHER: return oneAtLeast(mind, b, c);
                case IF: return oneAtLeast(mind, 1 - b, c);
                default: return Minds.hold(mind, f, b);
            }
        }

        /** The mind of one who doubts it. */
        int doubted(int mind) {
            switch (kind) {
                case BOTH: return oneAtLeast(mind, 1 - b, 1 - c);
                case EITHER: return Minds.hold(Minds.hold(mind, f, 1 - b), g, 1 - c);
                case IF: return Minds.hold(Minds.hold(mind, f, b), g, 1 - c);
                default: return Minds.hold(mind, f, 1 - b);
            }
        }

        /** The mind of one to whom f is the first bit, or g the second: all pairs that leave it open come to this. */
        private int oneAtLeast(int mind, int ofF, int ofG) {
            if (Minds.holds(mind, f, 1 - ofF)) {
                return Minds.hold(mind, g, ofG);
            }
            return Minds.holds(mind, g, 1 - ofG) ? Minds.hold(mind, f, ofF) : mind;
        }
    }

    /**
     * One day looked at: what its night brings, and what a sentence would do to it. A night depends on
     * nothing but what is true and who does his deed, so the nights of all sets of doers are found once.
     */
    private static final class Foresight {
        private final City city;
        final Sentence sentence = new Sentence();
        private int truth;
        private long minds;
        /** By the set of those who do their deeds: what is true behind the night, and its sum. */
        private final int[] truths = new int[1 << City.MOST_PEOPLE];
        private final int[] sums = new int[1 << City.MOST_PEOPLE];
        /** The mind of each if the sentence is said to him, or comes to him by an interpreter. */
        private final int[] toldMinds = new int[City.MOST_PEOPLE];
        private final int[] heardMinds = new int[City.MOST_PEOPLE];
        /** By bits, who does his deed if it is said to him, if it comes to him, if neither. */
        private int toldDoers, heardDoers, idleDoers;

        Foresight(City city) {
            this.city = city;
        }

        void look(int truth, long minds) {
            this.truth = truth;
            this.minds = minds;
            idleDoers = city.doers(minds);
            int sets = 1 << city.manyPeople;
            for (int doers = 0; doers < sets && doers < truths.length; doers++) {
                truths[doers] = city.dawn(truth, doers);
                sums[doers] = city.sumOf(truths[doers]);
            }
        }

        /** Comes to the sentence at a place; false, if none that can be so stands there. It is yet to be listened to. */
        boolean comeTo(int at) {
            if (!sentence.comeTo(at, city.manyFacts)) {
                return false;
            }
            return sentence.kind == Sentence.SHALL || sentence.stands(truth);
        }

        /** Finds what the sentence does to each. */
        void listen() {
            toldDoers = 0;
            heardDoers = 0;
            for (int p = 0; p < city.manyPeople; p++) {
                int mind = Minds.mindOf(minds, p);
                heardMinds[p] = sentence.believed(mind);
                toldMinds[p] = city.believesHer(p) ? heardMinds[p] : sentence.doubted(mind);
                if (city.doesDeed(p, heardMinds[p])) {
                    heardDoers |= 1 << p;
                }
                if (city.doesDeed(p, toldMinds[p])) {
                    toldDoers |= 1 << p;
                }
            }
        }

        /** Who does his deed if the sentence is said to a set (to none of them: silence). */
        int doersIfSaidTo(int set) {
            int others = (set & city.interpreters) != 0 ? heardDoers : idleDoers;
            return toldDoers & set | others & ~set;
        }

        boolean isSoSaidTo(int set) {
            return sentence.stands(sentence.kind == Sentence.SHALL ? truthIfSaidTo(set) : truth);
        }

        int truthIfSaidTo(int set) {
            return truths[doersIfSaidTo(set)];
        }

        int sumIfSaidTo(int set) {
            return sums[doersIfSaidTo(set)];
        }

        /** Whether anybody would believe what he does not. */
        boolean movesIfSaidTo(int set) {
            return mindsIfSaidTo(set) != minds;
        }

        boolean doesDeedIfTold(int one) {
            return (toldDoers >> one & 1) == 1;
        }

        /** The sum if they believed otherwise than they do. */
        int sumIfHeld(long otherMinds) {
            return sums[city.doers(otherMinds)];
        }

        long mindsIfSaidTo(int set) {
            boolean spreads = (set & city.interpreters) != 0;
            long then = minds;
            for (int p = 0; p < city.manyPeople; p++) {
                if ((set >> p & 1) == 1) {
                    then = Minds.withMind(then, p, toldMinds[p]);
                } else if (spreads) {
                    then = Minds.withMind(then, p, heardMinds[p]);
                }
            }
            return then;
        }
    }

    /** What is foretold; the answers of the latest asking stand in its fields. */
    private static final class Seer {
        /** The set to which silence is said. */
        private static final int NOBODY = 0;
        private static final int SIEGE_SEER = 1, SIEGE_GUESSER = 2;

        private final City city;
        private final Foresight today, tomorrow;
        /** Of best and plan: the sum, the sentence's number, to whom. */
        int sum, number, to;
        /** Of what is counted: how many, the first. */
        int many, first;
        private final int[] stanceSums = new int[4];

        Seer(City city, Foresight today, Foresight tomorrow) {
            this.city = city;
            this.today = today;
            this.tomorrow = tomorrow;
        }

        void seekBest(int truth, long minds) {
            today.look(truth, minds);
            sum = today.sumIfSaidTo(NOBODY);
            number = NONE;
            to = NOBODY;
            int sets = 1 << city.manyPeople;
            for (int at = 0; at < Sentence.PLACES; at++) {
                if (!today.comeTo(at)) {
                    continue;
                }
                today.listen();
                for (int set = 1; set < sets; set++) {
                    int then = today.sumIfSaidTo(set);
                    if (then > sum && today.isSoSaidTo(set)) {
                        sum = then;
                        number = today.sentence.number();
                        to = set;
                    }
                }
            }
        }

        private void startCounting() {
            many = 0;
            first = NONE;
        }

        private void countIn(int found) {
            if (many == 0) {
                first = found;
            }
            many++;
        }

        void countEmpty(int one) {
            startCounting();
            for (int at = 0; at < Sentence.PLACES; at++) {
                if (!today.comeTo(at)) {
                    continue;
                }
                today.listen();
                if (today.isSoSaidTo(1 << one) && !today.movesIfSaidTo(1 << one)) {
                    countIn(today.sentence.number());
                }
            }
        }

        void countSaid(int one, boolean did) {
            startCounting();
            for (int at = 0; at < Sentence.PLACES; at++) {
                if (!today.comeTo(at)) {
                    continue;
                }
                today.listen();
                if (today.isSoSaidTo(1 << one) && today.doesDeedIfTold(one) == did) {
                    countIn(today.sentence.number());
                }
            }
        }

        void countRests(long minds, int one, int other, int f, int b) {
            for (int pair = 0; pair < 4; pair++) {
                long then = stance(minds, one, f, pair >> 1 == 1 ? b : 1 - b);
                then = stance(then, other, f, (pair & 1) == 1 ? b : 1 - b);
                stanceSums[pair] = today.sumIfHeld(then);
            }
            startCounting();
            for (int pair = 0; pair < 4; pair++) {
                if (stanceSums[pair ^ 2] <= stanceSums[pair] && stanceSums[pair ^ 1] <= stanceSums[pair]) {
                    countIn(pair);
                }
            }
        }

        private static long stance(long minds, int one, int fact, int bit) {
            return Minds.withMind(minds, one, Minds.hold(Minds.mindOf(minds, one), fact, bit));
        }

        /** What can be true behind this night, by bits, whatever is said to one alone, or nothing. */
        long outcomes() {
            long all = 1L << today.truthIfSaidTo(NOBODY);
            for (int at = 0; at < Sentence.PLACES; at++) {
                if (!today.comeTo(at)) {
                    continue;
                }
                today.listen();
                for (int p = 0; p < city.manyPeople; p++) {
                    if (today.isSoSaidTo(1 << p)) {
                        all |= 1L << today.truthIfSaidTo(1 << p);
                    }
                }
            }
            return all;
        }

        void seekPlan(int truth, long minds, boolean twoDays) {
            today.look(truth, minds);
            sum = sumOfPlan(NOBODY, twoDays);
            number = NONE;
            to = NONE;
            for (int n = 0; n < Sentence.SINGLES; n++) {
                if (!today.comeTo(Sentence.placeOfSingle(n))) {
                    continue;
                }
                today.listen();
                for (int p = 0; p < city.manyPeople; p++) {
                    if (!today.isSoSaidTo(1 << p)) {
                        continue;
                    }
                    int then = sumOfPlan(1 << p, twoDays);
                    if (then > sum) {
                        sum = then;
                        number = today.sentence.number();
                        to = p;
                    }
                }
            }
        }

        /** The most sum behind the last night, if today's sentence is said to a set. */
        private int sumOfPlan(int set, boolean twoDays) {
            if (!twoDays) {
                return today.sumIfSaidTo(set);
            }
            tomorrow.look(today.truthIfSaidTo(set), today.mindsIfSaidTo(set));
            int most = tomorrow.sumIfSaidTo(NOBODY);
            for (int n = 0; n < Sentence.SINGLES; n++) {
                if (!tomorrow.comeTo(Sentence.placeOfSingle(n))) {
                    continue;
                }
                tomorrow.listen();
                for (int p = 0; p < city.manyPeople; p++) {
                    if (tomorrow.isSoSaidTo(1 << p)) {
                        most = Math.max(most, tomorrow.sumIfSaidTo(1 << p));
                    }
                }
            }
            return most;
        }

        int sumOfSiege(int draw, int how, int truth, long minds) {
            if (city.manyFacts == 0) {
                return 0;
            }
            int turned = truth ^ 1 << draw % city.manyFacts;
            if (how == SIEGE_SEER) {
                seekBest(turned, minds);
                return sum;
            }
            long then = minds;
            for (int p = 0; p < city.manyPeople && how == SIEGE_GUESSER; p++) {
                then = stance(then, p, draw / 8 % city.manyFacts, draw / 64 % 2);
            }
            return city.sumOf(city.dawn(turned, city.doers(then)));
        }
    }

    /** Bets that facts are true behind this night. */
    private static final class Bets {
        private static final int MOST = 5, PRIZE = 100;

        int many;
        private final int[] facts = new int[MOST];
        private final int[] prices = new int[MOST];
        /** The set that wins most for sure, and how much. */
        int chosen, won;

        boolean add(int fact, int price) {
            if (many >= MOST) {
                return false;
            }
            facts[many] = fact;
            prices[many] = price;
            many++;
            return true;
        }

        void choose(long outcomes) {
            chosen = 0;
            won = 0;
            for (int set = 1; set < 1 << many; set++) {
                int worst = worstOf(set, outcomes);
                if (worst > won) {
                    won = worst;
                    chosen = set;
                }
            }
        }

        private int worstOf(int set, long outcomes) {
            int worst = PRIZE * MOST;
            for (int truth = 0; truth < 64; truth++) {
                if ((outcomes >>> truth & 1) == 1) {
                    worst = Math.min(worst, winOf(set, truth));
                }
            }
            return worst;
        }

        private int winOf(int set, int truth) {
            int win = 0;
            for (int k = 0; k < many; k++) {
                if ((set >> k & 1) == 1) {
                    win += PRIZE * (truth >> facts[k] & 1) - prices[k];
                }
            }
            return win;
        }
    }
}
