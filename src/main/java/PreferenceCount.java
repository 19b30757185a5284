import java.util.Arrays;

/**
 * A count of preferences for seats in exact fractions: papers that rank candidates are laid, then stage by stage a
 * surplus is passed on or a candidate goes; each stage's totals and what went from whom to whom can be asked.
 */
public final class PreferenceCount {
    private static final int FEWEST_CANDIDATES = 2;
    private static final int MOST_CANDIDATES = 12;
    private static final int MOST_SEATS = 4;
    private static final int MOST_PAPERS = 50;
    private static final int MOST_RANKS = 7;
    private static final int GREATEST_DRAW = 999;
    private static final int BITS_OF_A_RANK = 4;
    private static final int MASK_OF_A_RANK = 15;
    private static final int EXCLUSION_MARK = 16;

    // Behind stage 0 no candidate has two stages: with a surplus it is left with the quota and gets no paper more,
    // and an exclusion is final.
    private static final int MOST_STAGES = MOST_CANDIDATES + 1;

    private static final int NOT_BEGUN = -1;
    private static final int NONE = -1;
    private static final int NOWHERE = -1;

    private final Roll roll;
    private final Pile pile;
    private final Stage[] stages;
    private int seats;
    private int latest;
    private boolean finished;
    private long quotaUpper;
    private long quotaLower;

    public PreferenceCount() {
        roll = new Roll();
        pile = new Pile();
        stages = new Stage[MOST_STAGES];
        for (int stage = 0; stage < MOST_STAGES; stage++) {
            stages[stage] = new Stage();
        }
        startAnew(FEWEST_CANDIDATES, 1);
    }

    public void begin(int candidates, int seats) throws IllegalArgumentException {
        boolean candidatesFit = candidates >= FEWEST_CANDIDATES && candidates <= MOST_CANDIDATES;
        boolean seatsFit = seats >= 1 && seats <= MOST_SEATS && seats < candidates;
        if (!candidatesFit || !seatsFit) {
            throw new IllegalArgumentException("2 to 12 candidates, 1 to 4 seats, fewer seats than candidates");
        }
        startAnew(candidates, seats);
    }

    public void draw(int candidate, int number) throws IllegalStateException, IllegalArgumentException {
        refuseOnceBegun();
        boolean numberFits = number >= 0 && number <= GREATEST_DRAW;
        if (!roll.has(candidate) || !numberFits || roll.anotherHasDraw(candidate, number)) {
            throw new IllegalArgumentException("no such candidate, or a number that is not free from 0 to 999");
        }
        roll.draws[candidate] = number;
    }

    public void withdraw(int candidate) throws IllegalStateException, IllegalArgumentException {
        refuseOnceBegun();
        if (!roll.has(candidate) || !roll.isContinuing(candidate) || roll.continuing() <= seats + 1) {
            throw new IllegalArgumentException("no such candidate, withdrawn already, or too few would be left");
        }
        roll.exclude(candidate);
    }

    public int lay(long row, int papers) throws IllegalStateException, IllegalArgumentException {
        refuseOnceBegun();
        boolean numberFits = papers >= 1 && papers <= MOST_PAPERS - pile.size;
        if (!numberFits || !isRanking(row)) {
            throw new IllegalArgumentException("no ranking of 1 to 7 candidates, or not 1 to 50 papers in all");
        }
        pile.put(row, papers);
        return pile.size;
    }

    public int open() throws IllegalStateException {
        refuseOnceBegun();
        if (pile.size == 0) {
            throw new IllegalStateException("there are no papers");
        }
        setQuota();
        latest = 0;
        stages[0].clear();
        passOn(NOWHERE, 1, 1);
        settle();
        return (int) quotaUpper;
    }

    public int step() throws IllegalStateException {
        if (!hasBegun() || finished) {
            throw new IllegalStateException("the count has not begun, or is over");
        }
        int richest = foremost(true);
        boolean isSurplus = richest != NONE && isAboveQuota(richest);
        // While the count is not over, more continue than there are seats left, so that one can be excluded.
        int candidate = isSurplus ? richest : hindmost();
        latest++;
        stages[latest].followOn(stages[latest - 1]);
        if (isSurplus) {
            passSurplus(candidate);
        } else {
            excludeAndPass(candidate);
        }
        settle();
        return isSurplus ? candidate : candidate + EXCLUSION_MARK;
    }

    public boolean over() {
        return finished;
    }

    public int state(int what) {
        switch (what) {
            case 0:
                return roll.size;
            case 1:
                return seats;
            case 2:
                return pile.size;
            case 3:
                return (int) quotaLower;
            case 4:
                return latest;
            case 5:
                return roll.elected;
            case 6:
                return roll.excluded;
            case 7:
                return roll.continuing();
            default:
                return -1;
        }
    }

    public int status(int candidate) throws IndexOutOfBoundsException {
        if (!roll.has(candidate)) {
            throw new IndexOutOfBoundsException("no such candidate");
        }
        return roll.standings[candidate];
    }

    public long total(int stage, int candidate, boolean lower) throws IndexOutOfBoundsException {
        refuseUnknown(stage, candidate);
        Fractions totals = stages[stage].totals;
        return lower ? totals.lowers[candidate] : totals.uppers[candidate];
    }

    public int papers(int candidate) throws IndexOutOfBoundsException {
        if (!roll.hasOrIsNobody(candidate)) {
            throw new IndexOutOfBoundsException("no such candidate");
        }
        return pile.lyingWith(candidate);
    }

    public int moved(int stage, int candidate) throws IndexOutOfBoundsException {
        refuseUnknown(stage, candidate);
        return stages[stage].arrivals[candidate];
    }

    private void startAnew(int candidates, int seatsToFill) {
        roll.clear(candidates);
        pile.clear();
        seats = seatsToFill;
        latest = NOT_BEGUN;
        finished = false;
        quotaUpper = 0;
        quotaLower = 0;
    }

    private boolean hasBegun() {
        return latest != NOT_BEGUN;
    }

    private void refuseOnceBegun() {
        if (hasBegun()) {
            throw new IllegalStateException("the count has begun");
        }
    }

    private void refuseUnknown(int stage, int candidate) {
        if (stage < 0 || stage > latest || !roll.hasOrIsNobody(candidate)) {
            throw new IndexOutOfBoundsException("no such stage or candidate");
        }
    }

    private boolean isRanking(long row) {
        int seen = 0;
        for (int rank = 0; rank <= MOST_RANKS; rank++) {
            int candidate = candidateAt(row, rank);
            if (candidate == NONE) {
                return rank > 0;
            }
            int bit = 1 << candidate;
            if (!roll.has(candidate) || (seen & bit) != 0) {
                return false;
            }
            seen |= bit;
        }
        return false;
    }

    // The row holds a candidate's number and one, so that an empty rank comes out as NONE.
    private static int candidateAt(long row, int rank) {
        return (int) (row >>> (rank * BITS_OF_A_RANK) & MASK_OF_A_RANK) - 1;
    }

    private void setQuota() {
        long common = commonDivisor(pile.size, seats + 1);
        quotaUpper = pile.size / common;
        quotaLower = (seats + 1) / common;
    }

    private boolean isAboveQuota(int candidate) {
        return stages[latest].totals.compare(candidate, quotaUpper, quotaLower) > 0;
    }

    private void passSurplus(int candidate) {
        Fractions totals = stages[latest].totals;
        // (total - quota) / total, widened by both lower numbers
        long lower = quotaLower * totals.uppers[candidate];
        long upper = lower - quotaUpper * totals.lowers[candidate];
        totals.put(candidate, quotaUpper, quotaLower);
        passOn(candidate, upper, lower);
    }

    private void excludeAndPass(int candidate) {
        roll.exclude(candidate);
        stages[latest].totals.put(candidate, 0, 1);
        passOn(candidate, 1, 1);
    }

    private void passOn(int from, long timesUpper, long timesLower) {
        for (int bundle = 0; bundle < pile.bundles; bundle++) {
            if (pile.holders[bundle] == from) {
                pile.values.multiply(bundle, timesUpper, timesLower);
                hand(bundle, firstContinuing(pile.rows[bundle]));
            }
        }
    }

    private void hand(int bundle, int to) {
        int papers = pile.counts[bundle];
        pile.holders[bundle] = to;
        stages[latest].arrivals[to] += papers;
        stages[latest].totals.add(to, papers * pile.values.uppers[bundle], pile.values.lowers[bundle]);
    }

    // The search may start at the top for a paper that goes on, too: whoever stands on it up to where it lay has
    // left the continuing ones, and nobody comes back to them.
    private int firstContinuing(long row) {
        for (int rank = 0; rank < MOST_RANKS; rank++) {
            int candidate = candidateAt(row, rank);
            if (candidate == NONE) {
                break;
            }
            if (roll.isContinuing(candidate)) {
                return candidate;
            }
        }
        return roll.size;
    }

    private void settle() {
        electInOrder(true);
        boolean seatsAreFilled = roll.elected == seats;
        boolean nobodyIsSpare = roll.elected + roll.continuing() <= seats;
        if (nobodyIsSpare) {
            electInOrder(false);
        }
        finished = seatsAreFilled || nobodyIsSpare;
    }

    private void electInOrder(boolean onlyAboveQuota) {
        for (int turn = 0; turn < roll.size; turn++) {
            int candidate = foremost(false);
            if (candidate == NONE || onlyAboveQuota && !isAboveQuota(candidate)) {
                break;
            }
            roll.elect(candidate);
        }
    }

    private int foremost(boolean ofElected) {
        int best = NONE;
        for (int candidate = 0; candidate < roll.size; candidate++) {
            boolean counts = ofElected ? roll.isElected(candidate) : roll.isContinuing(candidate);
            if (counts && (best == NONE || isAhead(candidate, best))) {
                best = candidate;
            }
        }
        return best;
    }

    private int hindmost() {
        int last = NONE;
        for (int candidate = 0; candidate < roll.size; candidate++) {
            if (roll.isContinuing(candidate) && (last == NONE || isAhead(last, candidate))) {
                last = candidate;
            }
        }
        return last;
    }

    private boolean isAhead(int one, int other) {
        for (int stage = latest; stage >= 0; stage--) {
            Fractions totals = stages[stage].totals;
            int order = totals.compare(one, totals.uppers[other], totals.lowers[other]);
            if (order != 0) {
                return order > 0;
            }
        }
        return roll.draws[one] < roll.draws[other];
    }

    // Never 0, so that it may be divided by. Euclid's rounds on two longs end before 100.
    private static long commonDivisor(long one, long other) {
        long greater = one;
        long lesser = other;
        for (int round = 0; round < 100 && lesser != 0; round++) {
            long rest = greater % lesser;
            greater = lesser;
            lesser = rest;
        }
        return greater == 0 ? 1 : greater;
    }

    /** The candidates: their draws, and how each one stands, told as status() tells it. */
    private static final class Roll {
        final int[] draws = new int[MOST_CANDIDATES];
        final int[] standings = new int[MOST_CANDIDATES];
        int size;
        int elected;
        int excluded;

        void clear(int candidates) {
            size = candidates;
            elected = 0;
            excluded = 0;
            for (int candidate = 0; candidate < MOST_CANDIDATES; candidate++) {
                draws[candidate] = candidate;
                standings[candidate] = 0;
            }
        }

        boolean has(int candidate) {
            return candidate >= 0 && candidate < size;
        }

        boolean hasOrIsNobody(int candidate) {
            return candidate >= 0 && candidate <= size;
        }

        boolean anotherHasDraw(int candidate, int number) {
            for (int other = 0; other < size; other++) {
                if (other != candidate && draws[other] == number) {
                    return true;
                }
            }
            return false;
        }

        boolean isContinuing(int candidate) {
            return standings[candidate] == 0;
        }

        boolean isElected(int candidate) {
            return standings[candidate] > 0;
        }

        int continuing() {
            return size - elected - excluded;
        }

        void elect(int candidate) {
            elected++;
            standings[candidate] = elected;
        }

        void exclude(int candidate) {
            excluded++;
            standings[candidate] = -excluded;
        }
    }

    /** The papers, in bundles of those laid together: papers alike lie together and have one value at all times. */
    private static final class Pile {
        final long[] rows = new long[MOST_PAPERS];
        final int[] counts = new int[MOST_PAPERS];
        final int[] holders = new int[MOST_PAPERS];
        final Fractions values = new Fractions(MOST_PAPERS);
        int bundles;
        int size;

        void clear() {
            bundles = 0;
            size = 0;
        }

        // A bundle has one paper at least, so that there are no more bundles than papers.
        void put(long row, int papers) {
            rows[bundles] = row;
            counts[bundles] = papers;
            holders[bundles] = NOWHERE;
            values.put(bundles, 1, 1);
            bundles++;
            size += papers;
        }

        int lyingWith(int holder) {
            int lying = 0;
            for (int bundle = 0; bundle < bundles; bundle++) {
                if (holders[bundle] == holder) {
                    lying += counts[bundle];
                }
            }
            return lying;
        }
    }

    /** What stands behind one stage: each candidate's total and how many papers came; nobody's behind the last. */
    private static final class Stage {
        final Fractions totals = new Fractions(MOST_CANDIDATES + 1);
        final int[] arrivals = new int[MOST_CANDIDATES + 1];

        void clear() {
            totals.clear();
            Arrays.fill(arrivals, 0);
        }

        void followOn(Stage before) {
            totals.copy(before.totals);
            Arrays.fill(arrivals, 0);
        }
    }

    /**
     * A row of fractions in lowest terms, none below 0.
     *
     * <p>A long is wide enough. Before the last of 4 seats is filled 3 surpluses at most are passed on, each of a
     * total of 50 at most; all values and totals of a stage are multiples of 1 / d, where d is 1 at first, then at
     * most 5 * 50, then d * 50 d, then that once more: under 5 * 10^14. So totals widened to d stay under 10^17.
     */
    private static final class Fractions {
        final long[] uppers;
        final long[] lowers;

        Fractions(int size) {
            uppers = new long[size];
            lowers = new long[size];
            Arrays.fill(lowers, 1);
        }

        void clear() {
            Arrays.fill(uppers, 0);
            Arrays.fill(lowers, 1);
        }

        void copy(Fractions other) {
            System.arraycopy(other.uppers, 0, uppers, 0, uppers.length);
            System.arraycopy(other.lowers, 0, lowers, 0, lowers.length);
        }

        void put(int at, long upper, long lower) {
            long common = commonDivisor(upper, lower);
            uppers[at] = upper / common;
            lowers[at] = lower / common;
        }

        // Widened to the least common lower number, not to the product of both, which a long might not hold.
        void add(int at, long upper, long lower) {
            long common = commonDivisor(lowers[at], lower);
            long widening = lowers[at] / common;
            put(at, uppers[at] * (lower / common) + upper * widening, lower * widening);
        }

        void multiply(int at, long upper, long lower) {
            put(at, uppers[at] * upper, lowers[at] * lower);
        }

        int compare(int at, long upper, long lower) {
            long common = commonDivisor(lowers[at], lower);
            return Long.compare(uppers[at] * (lower / common), upper * (lowers[at] / common));
        }
    }
}
