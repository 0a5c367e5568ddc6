/**
 * Struck from the jury: people of sorts are called, two sides strike some of
 * them, and those who are left find for one side or the other.
 *
 * Sets of people are bits throughout: person p is bit p.
 */
public final class StruckJury {
    private static final int SORTS = 6;
    private static final int MOST_PEOPLE = 12;
    private static final int SETS = 1 << MOST_PEOPLE;
    private static final int MOST_NEEDED = 7;
    private static final int MOST_STRIKES = 3;
    private static final int MOST_ROW = 6;
    private static final int MOST_LEAN = 100;
    private static final int MOST_SPLIT = 50;
    private static final int MOST_BYTES = 80;
    private static final int MOST_FED = 8;

    private static final int A = 0;
    private static final int B = 1;

    /** What set() tells, by its numbers. */
    private static final int NEEDED = 0;
    private static final int STRIKES_A = 1;
    private static final int STRIKES_B = 2;
    private static final int HOW = 3;
    private static final int TRUTH = 4;
    private static final int TERMS = 5;
    private static final int[] LEAST = {1, 0, 0, 0, 0};
    private static final int[] GREATEST = {MOST_NEEDED, MOST_STRIKES, MOST_STRIKES, 1, 100};

    private static final int NOBODY = -1;
    private static final int OTHER = -2;
    private static final int STATE = -3;
    private static final int BELOW = -4;
    private static final int ROOM = -6;
    private static final int NONE = -9;
    private static final int FAULT = -20;
    private static final long LONG_REFUSAL = 4000000000000000000L;

    /** Beyond every VALUE: none is above 100 to the 8th. */
    private static final long VALUE_BELOW = -1L;
    private static final long VALUE_ABOVE = 10000000000000001L;

    private final Bench bench;
    private final Bench kept;
    private boolean isKept;
    private final Text text;
    private final int[] row;
    private int rowLength;
    private final int[] refusals;

    private final Minds minds;
    private final Minds otherMinds;
    private final Turns trueTurns;
    private final Turns otherTurns;
    private final Paper onPaper;
    private final Coming byComing;
    private boolean turnsKnown;
    private boolean paperKnown;
    private boolean comingKnown;

    public StruckJury() {
        // What one call needs beside the true turns is never needed by two at once.
        long[] scratch = new long[SETS];
        bench = new Bench();
        kept = new Bench();
        text = new Text();
        row = new int[MOST_ROW];
        refusals = new int[7];
        minds = new Minds();
        otherMinds = new Minds();
        trueTurns = new Turns(new long[SETS]);
        otherTurns = new Turns(scratch);
        onPaper = new Paper(trueTurns, scratch);
        byComing = new Coming(trueTurns, scratch);
        minds.take(bench);
    }

    // ---- what there is ----

    public int sort(int sort, int lean, int other) {
        int refusal = leansRefusal(sort, lean, other);
        if (refusal != 0) {
            return refuse(refusal);
        }
        bench.leans0[sort] = lean;
        bench.leans1[sort] = other;
        changed();
        return 1;
    }

    public int person(int sort) {
        if (!isSort(sort)) {
            return refuse(NOBODY);
        }
        if (bench.people >= MOST_PEOPLE) {
            return refuse(ROOM);
        }
        bench.add(sort);
        changed();
        return bench.people - 1;
    }

    public int takeBack() {
        if (bench.people == 0) {
            return refuse(STATE);
        }
        bench.people--;
        changed();
        return bench.people;
    }

    public int set(int what, int v) {
        if (what < 0 || what >= TERMS) {
            return refuse(OTHER);
        }
        if (v < LEAST[what]) {
            return refuse(BELOW);
        }
        if (v > GREATEST[what]) {
            return refuse(ROOM);
        }
        int was = bench.terms[what];
        bench.terms[what] = v;
        changed();
        return was;
    }

    public int feed(int n, long bytes) {
        if (n < 1) {
            return refuse(BELOW);
        }
        if (n > MOST_FED || text.length + n > MOST_BYTES) {
            return refuse(ROOM);
        }
        text.append(n, bytes);
        return text.length;
    }

    public int court() {
        int answer = text.readInto(bench);
        changed();
        return answer;
    }

    // ---- juries ----

    public long chance(int jury) {
        int refusal = juryRefusal(jury);
        return refusal != 0 ? refuseLong(refusal) : minds.chanceOf(jury);
    }

    public long right(int jury) {
        int refusal = juryRefusal(jury);
        return refusal != 0 ? refuseLong(refusal) : minds.rightOf(jury);
    }

    // ---- by turns ----

    public long best(int left, int strikes, int side) {
        int refusal = leftRefusal(left, strikes, side);
        if (refusal != 0) {
            return refuseLong(refusal);
        }
        otherTurns.lookBack(minds, left, strikes / 10, strikes % 10, side);
        return otherTurns.valueOf(left);
    }

    public int strike(int left, int strikes, int side) {
        int refusal = leftRefusal(left, strikes, side);
        if (refusal != 0) {
            return refuse(refusal);
        }
        otherTurns.lookBack(minds, left, strikes / 10, strikes % 10, side);
        return otherTurns.strikeFrom(left);
    }

    public long turns() {
        if (bench.called() == 0) {
            return refuseLong(STATE);
        }
        return valueByTurns();
    }

    public int order(int i) {
        if (bench.called() == 0) {
            return refuse(STATE);
        }
        if (i < 0 || i >= bench.strikes()) {
            return NONE;
        }
        knowTurns();
        int left = bench.calledSet();
        for (int place = 0; place < i; place++) {
            left &= ~(1 << trueTurns.strikeFrom(left));
        }
        return trueTurns.strikeFrom(left);
    }

    // ---- a row of strikes ----

    public int put(int person) {
        if (person < 0) {
            return refuse(BELOW);
        }
        if (person >= MOST_PEOPLE || rowLength >= MOST_ROW) {
            return refuse(ROOM);
        }
        row[rowLength] = person;
        rowLength++;
        return rowLength;
    }

    public int unput() {
        int had = rowLength;
        rowLength = 0;
        return had;
    }

    public int lawful() {
        if (bench.called() == 0) {
            return refuse(STATE);
        }
        return rowIsLawful() ? 1 : 0;
    }

    public long slip(boolean loss) {
        if (!rowIsLawful()) {
            return refuseLong(STATE);
        }
        knowTurns();
        int left = bench.calledSet();
        for (int place = 0; place < rowLength; place++) {
            int then = left & ~(1 << row[place]);
            long lost = Math.abs(trueTurns.valueOf(left) - trueTurns.valueOf(then));
            if (lost != 0) {
                return loss ? lost : place;
            }
            left = then;
        }
        return loss ? 0 : NONE;
    }

    public long second() {
        if (bench.called() == 0) {
            return refuseLong(STATE);
        }
        return valueWith(minds, bench.strikesOf(A), bench.strikesOf(B), B) - valueByTurns();
    }

    public long more(int side) {
        if (!isSide(side)) {
            return refuseLong(NOBODY);
        }
        int called = bench.called();
        if (called == 0 || called >= bench.people || bench.strikesOf(side) >= MOST_STRIKES) {
            return refuseLong(STATE);
        }
        int moreA = side == A ? 1 : 0;
        long with = valueWith(minds, bench.strikesOf(A) + moreA, bench.strikesOf(B) + 1 - moreA, A);
        return side == A ? with - valueByTurns() : valueByTurns() - with;
    }

    // ---- on paper ----

    public int rests() {
        if (bench.called() == 0) {
            return refuse(STATE);
        }
        knowPaper();
        return onPaper.restCount();
    }

    public int rest(int i) {
        if (bench.called() == 0) {
            return refuse(STATE);
        }
        knowPaper();
        if (i < 0 || i >= onPaper.restCount()) {
            return NONE;
        }
        return SETS * onPaper.restOfA(i) + onPaper.restOfB(i);
    }

    public long paper(int a, int b) {
        if (bench.called() == 0) {
            return refuseLong(STATE);
        }
        int all = bench.calledSet();
        if (((a | b) & ~all) != 0) {
            return refuseLong(NOBODY);
        }
        if (Integer.bitCount(a) != bench.strikesOf(A) || Integer.bitCount(b) != bench.strikesOf(B)) {
            return refuseLong(STATE);
        }
        return minds.chanceOf(firstOf(all & ~(a | b), bench.needed()));
    }

    // ---- as they come ----

    public long coming() {
        if (bench.called() == 0) {
            return refuseLong(STATE);
        }
        knowComing();
        return trueTurns.valueOf(byComing.jury());
    }

    public int come(int what) {
        if (what < 0 || what > 2) {
            return refuse(OTHER);
        }
        if (bench.called() == 0) {
            return refuse(STATE);
        }
        knowComing();
        return what == 0 ? byComing.jury() : byComing.keptBack(what == 1 ? A : B);
    }

    // ---- luck, the finest way, lists ----

    public long seldom(int sort, int what) {
        if (!isSort(sort)) {
            return refuseLong(NOBODY);
        }
        if (what < 0 || what > 1) {
            return refuseLong(OTHER);
        }
        if (!rowIsLawful()) {
            return refuseLong(STATE);
        }
        int called = bench.called();
        int struck = bench.strikesOf(A);
        return what == 1 ? ways(called, struck) : setsAsStruck(called, struck, sort);
    }

    public int finest() {
        if (bench.called() == 0) {
            return refuse(STATE);
        }
        knowTurns();
        long most = minds.rightOf(trueTurns.juryAtLast());
        int way = 0;
        knowPaper();
        if (onPaper.restCount() > 0) {
            int out = onPaper.restOfA(0) | onPaper.restOfB(0);
            long right = minds.rightOf(firstOf(bench.calledSet() & ~out, bench.needed()));
            if (right > most) {
                most = right;
                way = 1;
            }
        }
        knowComing();
        return minds.rightOf(byComing.jury()) > most ? 2 : way;
    }

    public long lot(int what) {
        if (what < 0 || what > 1) {
            return refuseLong(OTHER);
        }
        int needed = bench.needed();
        if (bench.people < needed) {
            return refuseLong(STATE);
        }
        if (what == 1) {
            return ways(bench.people, needed);
        }
        return minds.rightOfAll(bench.people);
    }

    public int trade() {
        if (bench.people < bench.needed()) {
            return refuse(STATE);
        }
        int jury = 0;
        int seated = 0;
        // Each round of the sorts seats at least one, so as many rounds as are needed do.
        for (int turn = 0; turn < SORTS * MOST_NEEDED && seated < bench.needed(); turn++) {
            int free = bench.ofSort(turn % SORTS) & ~jury;
            if (free != 0) {
                jury |= free & -free;
                seated++;
            }
        }
        return jury;
    }

    // ---- what is known of leans ----

    public long wrongly(int sort, int lean, int other) {
        int refusal = leansRefusal(sort, lean, other);
        if (refusal != 0) {
            return refuseLong(refusal);
        }
        if (bench.called() == 0) {
            return refuseLong(STATE);
        }
        otherMinds.take(bench);
        for (int person = 0; person < bench.people; person++) {
            if (bench.sortOf[person] == sort) {
                otherMinds.lean(person, lean, other);
            }
        }
        knowTurns();
        valueWith(otherMinds, bench.strikesOf(A), bench.strikesOf(B), A);
        return trueTurns.valueOf(juryOfTwoMinds()) - valueByTurns();
    }

    public long asked(int person, int split) {
        if (person < 0 || person >= bench.people) {
            return refuseLong(NOBODY);
        }
        if (split < 0) {
            return refuseLong(BELOW);
        }
        if (split > MOST_SPLIT) {
            return refuseLong(ROOM);
        }
        if (person >= bench.called()) {
            return refuseLong(STATE);
        }
        return valueLeaning(person, split) + valueLeaning(person, -split) - 2 * valueByTurns();
    }

    // ---- the image, counts ----

    public int image() {
        kept.copy(bench);
        isKept = true;
        return bench.people;
    }

    public int restore() {
        if (!isKept) {
            return refuse(STATE);
        }
        bench.copy(kept);
        changed();
        return bench.people;
    }

    public int count(int what) {
        if (what >= 4 && what <= 9) {
            return Integer.bitCount(bench.ofSort(what - 4));
        }
        if (what >= 11 && what <= 16) {
            return refusals[what - 10];
        }
        switch (what) {
            case 0: return bench.people;
            case 1: return bench.called();
            case 2: return text.length;
            case 3: return rowLength;
            default: return NONE;
        }
    }

    // ---- refusals ----

    private int refuse(int number) {
        refusals[-number]++;
        return number;
    }

    private long refuseLong(int number) {
        return refuse(number) - LONG_REFUSAL;
    }

    private static boolean isSort(int sort) {
        return sort >= 0 && sort < SORTS;
    }

    private static boolean isSide(int side) {
        return side == A || side == B;
    }

    /** The refusal that fits, or 0. */
    private static int leansRefusal(int sort, int lean, int other) {
        if (!isSort(sort)) {
            return NOBODY;
        }
        if (lean < 0 || other < 0) {
            return BELOW;
        }
        return lean > MOST_LEAN || other > MOST_LEAN ? ROOM : 0;
    }

    private int juryRefusal(int jury) {
        if ((jury & ~bench.everyone()) != 0) {
            return NOBODY;
        }
        return Integer.bitCount(jury) != bench.needed() ? STATE : 0;
    }

    private int leftRefusal(int left, int strikes, int side) {
        if (!isSide(side) || (left & ~bench.everyone()) != 0) {
            return NOBODY;
        }
        if (strikes < 0) {
            return BELOW;
        }
        int ofA = strikes / 10;
        int ofB = strikes % 10;
        if (ofA > MOST_STRIKES || ofB > MOST_STRIKES) {
            return ROOM;
        }
        return Integer.bitCount(left) != bench.needed() + ofA + ofB ? STATE : 0;
    }

    // ---- what is worked out once and kept until something changes ----

    private void changed() {
        minds.take(bench);
        turnsKnown = false;
        paperKnown = false;
        comingKnown = false;
    }

    private void knowTurns() {
        if (!turnsKnown) {
            trueTurns.lookBack(minds, bench.calledSet(), bench.strikesOf(A), bench.strikesOf(B), A);
            turnsKnown = true;
        }
    }

    private void knowPaper() {
        if (!paperKnown) {
            knowTurns();
            onPaper.weigh(bench);
            paperKnown = true;
        }
    }

    private void knowComing() {
        if (!comingKnown) {
            knowTurns();
            byComing.goBack(bench);
            comingKnown = true;
        }
    }

    // ---- parts of the calls above ----

    private long valueByTurns() {
        knowTurns();
        return trueTurns.valueOf(bench.calledSet());
    }

    /** BEST by TURNS with other minds, strikes, or side to go first; it stays in otherTurns. */
    private long valueWith(Minds held, int strikesA, int strikesB, int first) {
        int all = setOfFirst(bench.needed() + strikesA + strikesB);
        otherTurns.lookBack(held, all, strikesA, strikesB, first);
        return otherTurns.valueOf(all);
    }

    private long valueLeaning(int person, int by) {
        int sort = bench.sortOf[person];
        otherMinds.take(bench);
        otherMinds.lean(person, heldLean(bench.leans0[sort] + by), heldLean(bench.leans1[sort] + by));
        return valueWith(otherMinds, bench.strikesOf(A), bench.strikesOf(B), A);
    }

    private static int heldLean(int lean) {
        return Math.max(0, Math.min(MOST_LEAN, lean));
    }

    /** The jury if A strikes by otherTurns and B by the true ones. */
    private int juryOfTwoMinds() {
        int left = bench.calledSet();
        int strikes = bench.strikes();
        for (int place = 0; place < strikes; place++) {
            boolean isOfA = bench.sideAt(place) == A;
            int person = isOfA ? otherTurns.strikeFrom(left) : trueTurns.strikeFrom(left);
            left &= ~(1 << person);
        }
        return left;
    }

    private boolean rowIsLawful() {
        if (bench.called() == 0 || rowLength != bench.strikes()) {
            return false;
        }
        int left = bench.calledSet();
        for (int place = 0; place < rowLength; place++) {
            int bit = 1 << row[place];
            if ((left & bit) == 0) {
                return false;
            }
            left ^= bit;
        }
        return true;
    }

    /** How many sets of those called hold as many of a sort as A struck in the row, or more. */
    private long setsAsStruck(int called, int struck, int sort) {
        int ofSort = bench.ofSort(sort) & bench.calledSet();
        int fell = 0;
        for (int place = 0; place < rowLength; place++) {
            if (bench.sideAt(place) == A && (ofSort & (1 << row[place])) != 0) {
                fell++;
            }
        }
        int size = Integer.bitCount(ofSort);
        long sum = 0;
        for (int k = fell; k <= struck; k++) {
            sum += ways(size, k) * ways(called - size, struck - k);
        }
        return sum;
    }

    /** How many sets of k there are of n. */
    private static long ways(int n, int k) {
        if (k < 0 || k > n) {
            return 0;
        }
        long ways = 1;
        for (int i = 1; i <= k; i++) {
            ways = ways * (n - k + i) / i;
        }
        return ways;
    }

    private static int setOfFirst(int n) {
        return (1 << n) - 1;
    }

    /** The first n by numbers of a set. */
    private static int firstOf(int set, int n) {
        int first = 0;
        int rest = set;
        for (int i = 0; i < n; i++) {
            first |= rest & -rest;
            rest &= rest - 1;
        }
        return first;
    }

    /** All that an image holds: sorts with their leans, people, and what is told of the court. */
    private static final class Bench {
        private final int[] leans0 = new int[SORTS];
        private final int[] leans1 = new int[SORTS];
        private final int[] sortOf = new int[MOST_PEOPLE];
        private final int[] terms = {3, 1, 1, 0, 50};
        private int people;

        private Bench() {
            for (int sort = 0; sort < SORTS; sort++) {
                leans0[sort] = 50;
                leans1[sort] = 50;
            }
        }

        private void copy(Bench from) {
            System.arraycopy(from.leans0, 0, leans0, 0, SORTS);
            System.arraycopy(from.leans1, 0, leans1, 0, SORTS);
            System.arraycopy(from.sortOf, 0, sortOf, 0, MOST_PEOPLE);
            System.arraycopy(from.terms, 0, terms, 0, TERMS);
            people = from.people;
        }

        private void add(int sort) {
            if (people < MOST_PEOPLE) {
                sortOf[people] = sort;
                people++;
            }
        }

        private int needed() {
            return terms[NEEDED];
        }

        private int strikesOf(int side) {
            return side == A ? terms[STRIKES_A] : terms[STRIKES_B];
        }

        private int strikes() {
            return terms[STRIKES_A] + terms[STRIKES_B];
        }

        /** How many are called; 0 if there are not enough. */
        private int called() {
            int called = needed() + strikes();
            return called <= people ? called : 0;
        }

        private int calledSet() {
            return setOfFirst(called());
        }

        private int everyone() {
            return setOfFirst(people);
        }

        private int ofSort(int sort) {
            int set = 0;
            for (int person = 0; person < people; person++) {
                if (sortOf[person] == sort) {
                    set |= 1 << person;
                }
            }
            return set;
        }

        /** Whose the strike at a place is, A being first. */
        private int sideAt(int place) {
            return Turns.sideAt(place, strikesOf(A), strikesOf(B), A);
        }
    }

    /** How each person finds, as somebody holds it, and what juries of them find. */
    private static final class Minds {
        private final int[] leans0 = new int[MOST_PEOPLE];
        private final int[] leans1 = new int[MOST_PEOPLE];
        private final long[] spread = new long[MOST_NEEDED + 1];
        private final long[][] spreads = new long[MOST_NEEDED + 1][MOST_NEEDED + 1];
        private int needed;
        private boolean byAll;
        private int truth;

        private void take(Bench bench) {
            for (int person = 0; person < bench.people; person++) {
                int sort = bench.sortOf[person];
                leans0[person] = bench.leans0[sort];
                leans1[person] = bench.leans1[sort];
            }
            needed = bench.needed();
            byAll = bench.terms[HOW] == 1;
            truth = bench.terms[TRUTH];
        }

        private void lean(int person, int lean, int other) {
            leans0[person] = lean;
            leans1[person] = other;
        }

        private long chanceOf(int jury) {
            spreadOut(leans0, jury);
            long ifRight = findsForA();
            spreadOut(leans1, jury);
            return truth * ifRight + (100 - truth) * findsForA();
        }

        private long rightOf(int jury) {
            spreadOut(leans0, jury);
            long ifRight = findsForA();
            spreadOut(leans1, jury);
            return truth * ifRight + (100 - truth) * findsForB();
        }

        /** spread[k]: how often just k of the jury find for A. */
        private void spreadOut(int[] leans, int jury) {
            int size = 0;
            spread[0] = 1;
            for (int person = 0; person < MOST_PEOPLE && size < needed; person++) {
                if ((jury & (1 << person)) == 0) {
                    continue;
                }
                long lean = leans[person];
                long away = 100 - lean;
                size++;
                spread[size] = spread[size - 1] * lean;
                for (int k = size - 1; k > 0; k--) {
                    spread[k] = spread[k] * away + spread[k - 1] * lean;
                }
                spread[0] *= away;
            }
        }

        /** RIGHT added up over all juries of the first people. */
        private long rightOfAll(int people) {
            spreadOutAll(leans0, people);
            long ifRight = findsForA();
            spreadOutAll(leans1, people);
            return truth * ifRight + (100 - truth) * findsForB();
        }

        /** spread[k] added up over all juries; spreads[size] over all sets of that size. */
        private void spreadOutAll(int[] leans, int people) {
            for (int size = 0; size <= needed; size++) {
                for (int k = 0; k <= size; k++) {
                    spreads[size][k] = 0;
                }
            }
            spreads[0][0] = 1;
            for (int person = 0; person < people; person++) {
                long lean = leans[person];
                // Downwards, so that nobody is added to a set that has him already.
                for (int size = needed - 1; size >= 0; size--) {
                    for (int k = 0; k <= size; k++) {
                        spreads[size + 1][k + 1] += spreads[size][k] * lean;
                        spreads[size + 1][k] += spreads[size][k] * (100 - lean);
                    }
                }
            }
            for (int k = 0; k <= needed; k++) {
                spread[k] = spreads[needed][k];
            }
        }

        private boolean areAlike(int person, int other) {
            return leans0[person] == leans0[other] && leans1[person] == leans1[other];
        }

        private long findsForA() {
            return byAll ? spread[needed] : spreadSum(needed / 2 + 1, needed);
        }

        private long findsForB() {
            return byAll ? spread[0] : spreadSum(0, needed / 2);
        }

        private long spreadSum(int from, int to) {
            long sum = 0;
            for (int k = from; k <= to; k++) {
                sum += spread[k];
            }
            return sum;
        }
    }

    /**
     * BEST by TURNS of every set that may be left, from the last strike back.
     * How many are left tells how many strikes are done, so the set alone names
     * a state; a set of just NEEDED has its CHANCE as its value.
     */
    private static final class Turns {
        private final long[] values;
        private final int[] sides = new int[MOST_ROW];
        /** By person: the nearest one before who finds just like him (a bit), or 0. */
        private final int[] twins = new int[MOST_PEOPLE];
        private int all;
        private int strikes;
        private int needed;

        private Turns(long[] values) {
            this.values = values;
        }

        /** Whose the strike at a place is, who has none being passed over. */
        private static int sideAt(int place, int strikesA, int strikesB, int first) {
            int ofA = strikesA;
            int ofB = strikesB;
            int side = 1 - first;
            for (int i = 0; i <= place; i++) {
                side = 1 - side;
                if ((side == A ? ofA : ofB) == 0) {
                    side = 1 - side;
                }
                if (side == A) {
                    ofA--;
                } else {
                    ofB--;
                }
            }
            return side;
        }

        private void lookBack(Minds minds, int left, int strikesA, int strikesB, int first) {
            all = left;
            strikes = strikesA + strikesB;
            needed = minds.needed;
            for (int place = 0; place < strikes; place++) {
                sides[place] = sideAt(place, strikesA, strikesB, first);
            }
            findTwins(minds);
            // A set without one of its people is a lesser number, so it is known by then.
            for (int set = 1; set <= all; set++) {
                if ((set & ~all) == 0 && Integer.bitCount(set) >= needed) {
                    values[set] = worthOf(minds, set);
                }
            }
        }

        private void findTwins(Minds minds) {
            for (int person = 0; person < MOST_PEOPLE; person++) {
                twins[person] = 0;
                for (int other = 0; other < person; other++) {
                    if ((all & (1 << other)) != 0 && minds.areAlike(person, other)) {
                        twins[person] = 1 << other;
                    }
                }
            }
        }

        private long worthOf(Minds minds, int set) {
            int like = lesserLike(set);
            if (like != set) {
                return values[like];
            }
            int size = Integer.bitCount(set);
            return size == needed ? minds.chanceOf(set) : valueAfterBest(set, sides[needed + strikes - size]);
        }

        /** A lesser set that differs in one twin for another, or the set itself: it saves most of the work. */
        private int lesserLike(int set) {
            for (int person = 1; person < MOST_PEOPLE; person++) {
                int twin = twins[person];
                if ((set & (1 << person)) != 0 && twin != 0 && (set & twin) == 0) {
                    return set ^ (1 << person) ^ twin;
                }
            }
            return set;
        }

        private long valueAfterBest(int set, int side) {
            long value = side == A ? VALUE_BELOW : VALUE_ABOVE;
            for (int bit = 1; bit < SETS; bit <<= 1) {
                if ((set & bit) != 0) {
                    long after = values[set ^ bit];
                    value = side == A ? Math.max(value, after) : Math.min(value, after);
                }
            }
            return value;
        }

        private long valueOf(int set) {
            return values[set];
        }

        /** The least strike by which the value of the set stays; NONE if none is to be done. */
        private int strikeFrom(int set) {
            if (Integer.bitCount(set) <= needed) {
                return NONE;
            }
            for (int person = 0; person < MOST_PEOPLE; person++) {
                int bit = 1 << person;
                if ((set & bit) != 0 && values[set ^ bit] == values[set]) {
                    return person;
                }
            }
            return NONE;
        }

        private int juryAtLast() {
            int left = all;
            for (int place = 0; place < strikes; place++) {
                left &= ~(1 << strikeFrom(left));
            }
            return left;
        }
    }

    /**
     * The pairs AT REST on PAPER. What one side wins the other loses, so a pair is
     * at rest just if A's set holds the most that A can be sure of, B's the least
     * that B can, and the two are the same: the pairs are all of A's such sets
     * with all of B's.
     */
    private static final class Paper {
        private static final int MOST_WRITTEN = 220;

        private final Turns turns;
        /** By those left, the value of the first NEEDED of them. */
        private final long[] values;
        private final int[] setsA = new int[MOST_WRITTEN];
        private final int[] setsB = new int[MOST_WRITTEN];
        private final long[] sureA = new long[MOST_WRITTEN];
        private final long[] sureB = new long[MOST_WRITTEN];
        private int countA;
        private int countB;

        private Paper(Turns turns, long[] values) {
            this.turns = turns;
            this.values = values;
        }

        private void weigh(Bench bench) {
            int all = bench.calledSet();
            fillValues(all, bench.needed());
            countA = listSets(setsA, all, bench.strikesOf(A));
            countB = listSets(setsB, all, bench.strikesOf(B));
            for (int b = 0; b < countB; b++) {
                sureB[b] = VALUE_BELOW;
            }
            for (int a = 0; a < countA; a++) {
                weighSet(a, all);
            }
            long most = sureA[0];
            for (int a = 1; a < countA; a++) {
                most = Math.max(most, sureA[a]);
            }
            long least = sureB[0];
            for (int b = 1; b < countB; b++) {
                least = Math.min(least, sureB[b]);
            }
            countA = most == least ? keepThose(setsA, sureA, countA, most) : 0;
            countB = most == least ? keepThose(setsB, sureB, countB, least) : 0;
        }

        private void fillValues(int all, int needed) {
            int highest = 1;
            for (int left = 1; left <= all; left++) {
                if (left >= highest * 2) {
                    highest *= 2;
                }
                int size = Integer.bitCount(left);
                if (size == needed) {
                    values[left] = turns.valueOf(left);
                } else if (size > needed) {
                    values[left] = values[left ^ highest];
                }
            }
        }

        private static int listSets(int[] sets, int all, int size) {
            int count = 0;
            for (int set = 0; set <= all && count < MOST_WRITTEN; set++) {
                if (Integer.bitCount(set) == size) {
                    sets[count] = set;
                    count++;
                }
            }
            return count;
        }

        private void weighSet(int a, int all) {
            int left = all & ~setsA[a];
            long least = VALUE_ABOVE;
            for (int b = 0; b < countB; b++) {
                long value = values[left & ~setsB[b]];
                if (value < least) {
                    least = value;
                }
                if (value > sureB[b]) {
                    sureB[b] = value;
                }
            }
            sureA[a] = least;
        }

        private static int keepThose(int[] sets, long[] sure, int count, long value) {
            int keep = 0;
            for (int i = 0; i < count; i++) {
                if (sure[i] == value) {
                    sets[keep] = sets[i];
                    keep++;
                }
            }
            return keep;
        }

        private int restCount() {
            return countA * countB;
        }

        private int restOfA(int i) {
            return countB == 0 ? 0 : setsA[i / countB];
        }

        private int restOfB(int i) {
            return countB == 0 ? 0 : setsB[i % countB];
        }
    }

    /**
     * BEST by COMING, from the last who comes back to the first. A state is who
     * comes next, who is seated, and how many A has struck. Its END is the jury that
     * comes of it and the strikes kept back, in 16 bits; so one number of the table
     * holds a seated set's ends for all of A's counts.
     */
    private static final class Coming {
        private static final int END_BITS = 16;
        private static final long END_MASK = (1L << END_BITS) - 1;
        private static final int KEPT_A_AT = MOST_PEOPLE;
        private static final int KEPT_B_AT = MOST_PEOPLE + 2;

        private final Turns turns;
        private final long[] ends;
        private int called;
        private int needed;
        private int strikesA;
        private int strikesB;
        private int end;

        private Coming(Turns turns, long[] ends) {
            this.turns = turns;
            this.ends = ends;
        }

        private void goBack(Bench bench) {
            called = bench.called();
            needed = bench.needed();
            strikesA = bench.strikesOf(A);
            strikesB = bench.strikesOf(B);
            for (int next = called - 1; next >= 0; next--) {
                for (int seated = 0; seated < (1 << next); seated++) {
                    decideAll(next, seated);
                }
            }
            end = endFrom(0, 0, 0);
        }

        /** By how many A struck, upwards: an end with one more is still the one of who comes after. */
        private void decideAll(int next, int seated) {
            int struck = next - Integer.bitCount(seated);
            if (Integer.bitCount(seated) >= needed || struck >= strikesA + strikesB) {
                return;
            }
            int most = Math.min(struck, strikesA);
            for (int byA = Math.max(0, struck - strikesB); byA <= most; byA++) {
                long decided = decide(next, seated, byA);
                int at = END_BITS * byA;
                ends[seated] = (ends[seated] & ~(END_MASK << at)) | (decided << at);
            }
        }

        private int decide(int next, int seated, int byA) {
            int byB = next - Integer.bitCount(seated) - byA;
            int best = endFrom(next + 1, seated | (1 << next), byA);
            if (byB < strikesB) {
                int struck = endFrom(next + 1, seated, byA);
                best = valueOfEnd(struck) < valueOfEnd(best) ? struck : best;
            }
            if (byA < strikesA) {
                int struck = endFrom(next + 1, seated, byA + 1);
                best = valueOfEnd(struck) > valueOfEnd(best) ? struck : best;
            }
            return best;
        }

        private int endFrom(int next, int seated, int byA) {
            int size = Integer.bitCount(seated);
            int struck = next - size;
            if (size == needed) {
                int keptA = strikesA - byA;
                int keptB = strikesB - (struck - byA);
                return seated | (keptA << KEPT_A_AT) | (keptB << KEPT_B_AT);
            }
            if (struck == strikesA + strikesB) {
                return seated | (setOfFirst(called) & ~setOfFirst(next));
            }
            return (int) ((ends[seated] >>> (END_BITS * byA)) & END_MASK);
        }

        private long valueOfEnd(int some) {
            return turns.valueOf(some & (SETS - 1));
        }

        private int jury() {
            return end & (SETS - 1);
        }

        private int keptBack(int side) {
            return (end >> (side == A ? KEPT_A_AT : KEPT_B_AT)) & 3;
        }
    }

    /** The bytes fed, and how a court is read from them. */
    private static final class Text {
        private final byte[] bytes = new byte[MOST_BYTES];
        private final int[] sorts = new int[MOST_PEOPLE];
        private int length;
        private int at;
        private int faultAt;

        private void append(int n, long fed) {
            for (int i = 0; i < n && length < MOST_BYTES; i++) {
                bytes[length] = (byte) (fed >>> (8 * i));
                length++;
            }
        }

        /** How many statements came; or FAULT less the fault's place. The text is empty then. */
        private int readInto(Bench bench) {
            int came = 0;
            boolean whole = true;
            at = 0;
            for (; whole && at < length && came < MOST_BYTES; came++) {
                whole = readStatement(bench);
            }
            length = 0;
            return whole ? came : FAULT - faultAt;
        }

        private boolean readStatement(Bench bench) {
            int sign = bytes[at];
            switch (sign) {
                case 's':
                    at++;
                    return readSort(bench);
                case 'p':
                    at++;
                    return readPeople(bench);
                case 'n':
                    at++;
                    return readTerm(bench, NEEDED);
                case 'x':
                    at++;
                    return readStrikes(bench);
                case 'h':
                    at++;
                    return readTerm(bench, HOW);
                case 't':
                    at++;
                    return readTruth(bench);
                default:
                    return fault(at);
            }
        }

        private boolean readSort(Bench bench) {
            int sort = digit(0, SORTS - 1);
            if (sort < 0 || !sign(':')) {
                return false;
            }
            int lean = number();
            if (lean < 0 || !sign(',')) {
                return false;
            }
            int other = number();
            if (other < 0 || !sign(';')) {
                return false;
            }
            bench.leans0[sort] = lean;
            bench.leans1[sort] = other;
            return true;
        }

        private boolean readPeople(Bench bench) {
            int room = MOST_PEOPLE - bench.people;
            int count = 0;
            // The first must be there; of the others the first sign that is no sort ends them.
            while (count < room && (count == 0 || isDigit(0, SORTS - 1))) {
                int sort = digit(0, SORTS - 1);
                if (sort < 0) {
                    return false;
                }
                sorts[count] = sort;
                count++;
            }
            if (count == 0) {
                return fault(at);
            }
            if (!sign(';')) {
                return false;
            }
            for (int i = 0; i < count; i++) {
                bench.add(sorts[i]);
            }
            return true;
        }

        private boolean readTerm(Bench bench, int term) {
            int value = digit(LEAST[term], GREATEST[term]);
            if (value < 0 || !sign(';')) {
                return false;
            }
            bench.terms[term] = value;
            return true;
        }

        private boolean readStrikes(Bench bench) {
            int ofA = digit(0, MOST_STRIKES);
            if (ofA < 0) {
                return false;
            }
            int ofB = digit(0, MOST_STRIKES);
            if (ofB < 0 || !sign(';')) {
                return false;
            }
            bench.terms[STRIKES_A] = ofA;
            bench.terms[STRIKES_B] = ofB;
            return true;
        }

        private boolean readTruth(Bench bench) {
            int truth = number();
            if (truth < 0 || !sign(';')) {
                return false;
            }
            bench.terms[TRUTH] = truth;
            return true;
        }

        private boolean fault(int place) {
            faultAt = place;
            return false;
        }

        private boolean isDigit(int least, int greatest) {
            return at < length && bytes[at] >= '0' + least && bytes[at] <= '0' + greatest;
        }

        private boolean sign(char due) {
            if (at >= length || bytes[at] != due) {
                return fault(at);
            }
            at++;
            return true;
        }

        /** The digit, or -1 with a fault. */
        private int digit(int least, int greatest) {
            if (!isDigit(least, greatest)) {
                fault(at);
                return -1;
            }
            at++;
            return bytes[at - 1] - '0';
        }

        /** The number 0 to 100, or -1 with a fault; what stands behind it is not looked at. */
        private int number() {
            int start = at;
            int value = digit(0, 9);
            for (int more = 0; more < 2 && value > 0 && isDigit(0, 9); more++) {
                value = 10 * value + digit(0, 9);
            }
            if (value > 100) {
                fault(start);
                return -1;
            }
            return value;
        }
    }
}
