import java.math.BigInteger;
import java.util.ArrayList;
import java.util.List;

/**
 * The document's words told a second time, as plainly as can be and with numbers of any size, to be compared with
 * PreferenceCount: every paper is held for itself, knows how far down it lies, and totals are summed anew at each
 * stage. It is only called where PreferenceCount may not refuse; what is refused is told by the may.. methods.
 */
final class PlainCount {
    private static final class Paper {
        int[] ranks;
        int rank;
        Ratio value;
    }

    private static final class Ratio {
        static final Ratio ZERO = new Ratio(BigInteger.ZERO, BigInteger.ONE);
        static final Ratio ONE = new Ratio(BigInteger.ONE, BigInteger.ONE);
        final BigInteger upper;
        final BigInteger lower;

        Ratio(BigInteger upper, BigInteger lower) {
            BigInteger common = upper.gcd(lower);
            this.upper = upper.divide(common);
            this.lower = lower.divide(common);
        }

        Ratio plus(Ratio other) {
            return new Ratio(upper.multiply(other.lower).add(other.upper.multiply(lower)), lower.multiply(other.lower));
        }

        Ratio minus(Ratio other) {
            return plus(new Ratio(other.upper.negate(), other.lower));
        }

        Ratio times(Ratio other) {
            return new Ratio(upper.multiply(other.upper), lower.multiply(other.lower));
        }

        Ratio over(Ratio other) {
            return new Ratio(upper.multiply(other.lower), lower.multiply(other.upper));
        }

        int compare(Ratio other) {
            return upper.multiply(other.lower).compareTo(other.upper.multiply(lower));
        }
    }

    private int candidates;
    private int seats;
    private int[] draws;
    private List<Paper> papers;
    private List<Integer> elected;
    private List<Integer> excluded;
    private Ratio[] kept;
    private List<Ratio[]> totals;
    private List<int[]> moves;
    private Ratio quota;
    private boolean over;

    PlainCount() {
        begin(2, 1);
    }

    boolean mayBegin(int newCandidates, int newSeats) {
        return newCandidates >= 2 && newCandidates <= 12 && newSeats >= 1 && newSeats <= 4 && newSeats < newCandidates;
    }

    void begin(int newCandidates, int newSeats) {
        candidates = newCandidates;
        seats = newSeats;
        draws = new int[candidates];
        kept = new Ratio[candidates];
        for (int i = 0; i < candidates; i++) {
            draws[i] = i;
            kept[i] = Ratio.ZERO;
        }
        papers = new ArrayList<>();
        elected = new ArrayList<>();
        excluded = new ArrayList<>();
        totals = new ArrayList<>();
        moves = new ArrayList<>();
        quota = null;
        over = false;
    }

    boolean hasBegun() {
        return quota != null;
    }

    boolean isCandidate(int candidate) {
        return 0 <= candidate && candidate < candidates;
    }

    boolean isCandidateOrNobody(int candidate) {
        return isCandidate(candidate) || candidate == candidates;
    }

    boolean isStage(int stage) {
        return 0 <= stage && stage < totals.size();
    }

    boolean mayDraw(int candidate, int number) {
        if (!isCandidate(candidate) || number < 0 || number > 999) {
            return false;
        }
        for (int i = 0; i < candidates; i++) {
            if (i != candidate && draws[i] == number) {
                return false;
            }
        }
        return true;
    }

    void draw(int candidate, int number) {
        draws[candidate] = number;
    }

    boolean mayWithdraw(int candidate) {
        return isCandidate(candidate) && !excluded.contains(candidate)
                && candidates - excluded.size() - 1 >= seats + 1;
    }

    void withdraw(int candidate) {
        excluded.add(candidate);
    }

    boolean mayLay(long row, long number) {
        if (number < 1 || papers.size() + number > 50) {
            return false;
        }
        List<Integer> ranked = ranked(row);
        for (int i = 0; i < ranked.size(); i++) {
            if (!isCandidate(ranked.get(i)) || ranked.indexOf(ranked.get(i)) != i) {
                return false;
            }
        }
        return !ranked.isEmpty() && ranked.size() <= 7;
    }

    int lay(long row, int number) {
        List<Integer> ranked = ranked(row);
        for (int i = 0; i < number; i++) {
            Paper paper = new Paper();
            paper.ranks = new int[ranked.size()];
            for (int rank = 0; rank < paper.ranks.length; rank++) {
                paper.ranks[rank] = ranked.get(rank);
            }
            paper.rank = -1;
            paper.value = Ratio.ONE;
            papers.add(paper);
        }
        return papers.size();
    }

    /** The hexadecimal digits from the last one on, up to the first that is 0. */
    private static List<Integer> ranked(long row) {
        String digits = new StringBuilder(Long.toHexString(row)).reverse().toString();
        List<Integer> ranked = new ArrayList<>();
        for (int i = 0; i < digits.length() && digits.charAt(i) != '0'; i++) {
            ranked.add(Character.digit(digits.charAt(i), 16) - 1);
        }
        return ranked;
    }

    boolean mayOpen() {
        return !hasBegun() && !papers.isEmpty();
    }

    int open() {
        quota = new Ratio(BigInteger.valueOf(papers.size()), BigInteger.valueOf(seats + 1));
        int[] came = new int[candidates + 1];
        for (Paper paper : papers) {
            goOn(paper, came);
        }
        close(came);
        return quota.upper.intValueExact();
    }

    boolean mayStep() {
        return hasBegun() && !over;
    }

    int step() {
        int[] came = new int[candidates + 1];
        List<Integer> rich = new ArrayList<>();
        for (int one : elected) {
            if (latestTotal(one).compare(quota) > 0) {
                rich.add(one);
            }
        }
        int answer;
        if (!rich.isEmpty()) {
            int one = ordered(rich).get(0);
            Ratio part = latestTotal(one).minus(quota).over(latestTotal(one));
            for (Paper paper : lyingWith(one)) {
                paper.value = paper.value.times(part);
                goOn(paper, came);
            }
            kept[one] = quota;
            answer = one;
        } else {
            List<Integer> order = ordered(continuing());
            int one = order.get(order.size() - 1);
            excluded.add(one);
            for (Paper paper : lyingWith(one)) {
                goOn(paper, came);
            }
            answer = one + 16;
        }
        close(came);
        return answer;
    }

    private void goOn(Paper paper, int[] came) {
        do {
            paper.rank++;
        } while (paper.rank < paper.ranks.length && !continuing().contains(paper.ranks[paper.rank]));
        came[holder(paper)]++;
    }

    private int holder(Paper paper) {
        return paper.rank < paper.ranks.length ? paper.ranks[paper.rank] : candidates;
    }

    private List<Paper> lyingWith(int holder) {
        List<Paper> lying = new ArrayList<>();
        for (Paper paper : papers) {
            if (paper.rank >= 0 && holder(paper) == holder) {
                lying.add(paper);
            }
        }
        return lying;
    }

    private List<Integer> continuing() {
        List<Integer> continuing = new ArrayList<>();
        for (int i = 0; i < candidates; i++) {
            if (!elected.contains(i) && !excluded.contains(i)) {
                continuing.add(i);
            }
        }
        return continuing;
    }

    private Ratio latestTotal(int candidate) {
        return totals.get(totals.size() - 1)[candidate];
    }

    private void close(int[] came) {
        Ratio[] sums = new Ratio[candidates + 1];
        for (int i = 0; i <= candidates; i++) {
            sums[i] = i < candidates ? kept[i] : Ratio.ZERO;
            for (Paper paper : lyingWith(i)) {
                sums[i] = sums[i].plus(paper.value);
            }
        }
        totals.add(sums);
        moves.add(came);
        for (int one : ordered(continuing())) {
            if (sums[one].compare(quota) > 0) {
                elected.add(one);
            }
        }
        if (elected.size() == seats) {
            over = true;
        }
        if (elected.size() + continuing().size() <= seats) {
            elected.addAll(ordered(continuing()));
            over = true;
        }
    }

    private List<Integer> ordered(List<Integer> some) {
        List<Integer> order = new ArrayList<>(some);
        order.sort((one, other) -> {
            for (int stage = totals.size() - 1; stage >= 0; stage--) {
                int difference = totals.get(stage)[other].compare(totals.get(stage)[one]);
                if (difference != 0) {
                    return difference;
                }
            }
            return Integer.compare(draws[one], draws[other]);
        });
        return order;
    }

    boolean isOver() {
        return over;
    }

    int candidates() {
        return candidates;
    }

    int seats() {
        return seats;
    }

    int latest() {
        return totals.size() - 1;
    }

    int state(int what) {
        switch (what) {
            case 0:
                return candidates;
            case 1:
                return seats;
            case 2:
                return papers.size();
            case 3:
                return hasBegun() ? quota.lower.intValueExact() : 0;
            case 4:
                return latest();
            case 5:
                return elected.size();
            case 6:
                return excluded.size();
            case 7:
                return continuing().size();
            default:
                return -1;
        }
    }

    int status(int candidate) {
        return elected.contains(candidate) ? elected.indexOf(candidate) + 1 : -(excluded.indexOf(candidate) + 1);
    }

    long total(int stage, int candidate, boolean lower) {
        Ratio ratio = totals.get(stage)[candidate];
        return (lower ? ratio.lower : ratio.upper).longValueExact();
    }

    int papers(int candidate) {
        return lyingWith(candidate).size();
    }

    int moved(int stage, int candidate) {
        return moves.get(stage)[candidate];
    }

    /** How many surpluses were passed on. */
    int surpluses() {
        int passed = 0;
        for (Ratio one : kept) {
            passed += one.upper.signum();
        }
        return passed;
    }
}
