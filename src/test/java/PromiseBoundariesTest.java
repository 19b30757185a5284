import java.util.function.Supplier;

/**
 * The boundary cases that promises 1 to 13 name, a test for each sentence. For each kind of refusal of a call that
 * changes something, a twin of the object that had no such call tells that nothing was done; sweeps over many values
 * look at the states alone. No object gets more than the 512 calls of the document.
 */
public final class PromiseBoundariesTest extends CountCase {
    private static final int MOST = Integer.MAX_VALUE;
    private static final int LEAST = Integer.MIN_VALUE;

    private PromiseBoundariesTest() {
        super("boundaries of the promises");
    }

    public static void main(String[] args) {
        new PromiseBoundariesTest().runAll();
    }

    /** Four for two seats, since 3 is withdrawn; 0 has the greatest draw, 2 the least. */
    private static PreferenceCount laid() {
        PreferenceCount count = begun(5, 2);
        count.draw(0, 999);
        count.draw(2, 0);
        count.withdraw(3);
        count.lay(row(0, 1), 6);
        count.lay(row(1), 1);
        count.lay(row(2), 2);
        count.lay(row(3, 4), 2);
        count.lay(row(3), 1);
        return count;
    }

    /** Quota 4; the surplus of 0 is the next stage. */
    private static PreferenceCount opened() {
        PreferenceCount count = laid();
        count.open();
        return count;
    }

    private static PreferenceCount ended() {
        PreferenceCount count = opened();
        count.step();
        count.step();
        count.step();
        return count;
    }

    private static final Supplier<PreferenceCount> NEW = PreferenceCount::new;
    private static final Supplier<PreferenceCount> LAID = PromiseBoundariesTest::laid;
    private static final Supplier<PreferenceCount> OPENED = PromiseBoundariesTest::opened;
    private static final Supplier<PreferenceCount> ENDED = PromiseBoundariesTest::ended;

    /** What the tests below build on. */
    private void promise00TheSamples() {
        states(laid(), "5 2 12 0 -1 0 1 4");
        PreferenceCount count = opened();
        totals(count, 0, "6 1 2 0 2 1");
        statuses(count, "1 0 0 -1 0");
        steps(count, "0 20 18");
        totals(count, 1, "4 3 2 0 2 1");
        totals(count, 2, "4 3 2 0 0 3");
        totals(count, 3, "4 3 0 0 0 5");
        statuses(count, "1 2 -3 -1 -2");
        states(ended(), "5 2 12 1 3 2 3 0");
    }

    /** "Two candidates, one seat, no papers; nothing is counted." */
    private void promise01NewObject() {
        PreferenceCount count = new PreferenceCount();
        states(count, "2 1 0 0 -1 0 0 2");
        statuses(count, "0 0");
        papers(count, "0 0 0");
        over(count, false);
        checks.refusesIndex("status(2)", () -> count.status(2));
        checks.refusesIndex("papers(3)", () -> count.papers(3));
        checks.refusesIndex("total(0, 0)", () -> count.total(0, 0, false));
        checks.refusesIndex("moved(0, 0)", () -> count.moved(0, 0));
        checks.refusesArgument("a paper for candidate 2", () -> count.lay(row(2), 1));
        checks.refusesArgument("withdraw(1)", () -> count.withdraw(1));
    }

    /** Likewise: a new object can be used at once, as if two candidates and one seat had been begun. */
    private void promise01NewObjectIsAsIfBegun() {
        PreferenceCount count = new PreferenceCount();
        checks.same("lay", count.lay(row(0), 1), 1);
        checks.same("lay", count.lay(row(1), 1), 2);
        checks.same("open", count.open(), 1);
        steps(count, "17");
        statuses(count, "1 -1");
    }

    /** "so many candidates (2 to 12) and seats (1 to 4, fewer than candidates)": each pair round about */
    private void promise02BeginTakesJustThese() {
        for (int candidates = -3; candidates <= 17; candidates++) {
            for (int seats = -3; seats <= 17; seats++) {
                boolean fits = candidates >= 2 && candidates <= 12 && seats >= 1 && seats <= 4 && seats < candidates;
                tryBegin(candidates, seats, fits);
            }
        }
    }

    private void tryBegin(int candidates, int seats, boolean fits) {
        PreferenceCount count = begun(6, 2);
        count.lay(row(5), 3);
        if (fits) {
            count.begin(candidates, seats);
            states(count, candidates + " " + seats + " 0 0 -1 0 0 " + candidates);
        } else {
            checks.refusesArgument("begin(" + candidates + ", " + seats + ")", () -> count.begin(candidates, seats));
            states(count, "6 2 3 0 -1 0 0 6");
        }
    }

    /** "IllegalArgumentException: they are not so (nothing is done).", in each state of a count */
    private void promise02BeginRefusedDoesNothing() {
        int[][] wrong = {{1, 1}, {13, 4}, {5, 0}, {6, 5}, {4, 4}, {3, 4}, {-5, -6}, {MOST, 1}, {LEAST, 1}, {5, MOST},
            {5, LEAST}, {LEAST, LEAST}, {MOST, MOST}, {LEAST, MOST}, {MOST, LEAST}, {2 + 16, 1}, {258, 257}};
        for (int[] pair : wrong) {
            String call = "begin(" + pair[0] + ", " + pair[1] + ")";
            refusesArgument(call, NEW, count -> count.begin(pair[0], pair[1]));
            refusesArgument(call, LAID, count -> count.begin(pair[0], pair[1]));
            refusesArgument(call, OPENED, count -> count.begin(pair[0], pair[1]));
            refusesArgument(call, ENDED, count -> count.begin(pair[0], pair[1]));
        }
    }

    /** "Begins anew .. without papers": draws, withdrawals, papers and stages are gone, in each state of a count */
    private void promise02BeginForgetsAll() {
        PreferenceCount[] before = {new PreferenceCount(), laid(), opened(), ended()};
        for (PreferenceCount count : before) {
            count.begin(4, 1);
            states(count, "4 1 0 0 -1 0 0 4");
            statuses(count, "0 0 0 0");
            papers(count, "0 0 0 0 0");
            over(count, false);
            checks.refusesIndex("total(0, 0)", () -> count.total(0, 0, true));
            checks.refusesIndex("moved(0, 0)", () -> count.moved(0, 0));
            checks.refusesState("open()", () -> count.open());
            checks.refusesState("step()", () -> count.step());
            checks.same("lay", count.lay(row(0), 25), 25);
            checks.same("lay", count.lay(row(1), 25), 50);
            checks.same("open", count.open(), 25);
            totals(count, 0, "25 25 0 0 0");
            steps(count, "19 18 17");
            totals(count, 3, "25 0 0 0 25");
        }
    }

    /** "Begins anew with so many candidates": also with more, or fewer, than before */
    private void promise02BeginWithMoreOrFewer() {
        PreferenceCount count = ended();
        count.begin(12, 4);
        checks.same("status(11)", count.status(11), 0);
        checks.same("papers(12)", count.papers(12), 0);
        count.lay(row(11), 50);
        checks.same("open", count.open(), 10);
        totals(count, 0, "0 0 0 0 0 0 0 0 0 0 0 50 0");
        count.begin(2, 1);
        checks.refusesIndex("status(2)", () -> count.status(2));
        checks.refusesIndex("papers(3)", () -> count.papers(3));
        count.lay(row(1), 1);
        checks.same("open", count.open(), 1);
        totals(count, 0, "0 1 0");
        checks.refusesIndex("total(0, 3)", () -> count.total(0, 3, false));
        checks.refusesIndex("total(1, 0)", () -> count.total(1, 0, false));
    }

    /** "A candidate's DRAW, 0 to 999.": both ends, and what lies beyond them */
    private void promise03DrawFrom0To999() {
        PreferenceCount count = begun(3, 1);
        count.draw(0, 999);
        count.draw(2, 0);
        for (int candidate = 0; candidate < 3; candidate++) {
            count.lay(row(candidate), 1);
        }
        count.open();
        steps(count, "16 17");
        int[] wrong = {-1, 1000, 1001, -999, MOST, LEAST, 65536, 256 * 256 * 256};
        for (int number : wrong) {
            refusesArgument("draw(1, " + number + ")", LAID, laid -> laid.draw(1, number));
        }
    }

    /** "there is no such candidate" */
    private void promise03DrawOfNoCandidate() {
        int[] wrong = {-1, 5, 6, 11, 12, 13, 16, MOST, LEAST};
        for (int candidate : wrong) {
            refusesArgument("draw(" + candidate + ", 500)", LAID, count -> count.draw(candidate, 500));
        }
        refusesArgument("draw(2, 500)", NEW, count -> count.draw(2, 500));
    }

    /** "or another one has it": not the candidate itself, and not one that has it no more */
    private void promise03DrawThatAnotherHas() {
        refusesArgument("the draw of 0", LAID, count -> count.draw(1, 999));
        refusesArgument("the draw of 2", LAID, count -> count.draw(0, 0));
        refusesArgument("the draw of the last", LAID, count -> count.draw(0, 4));
        refusesArgument("the draw of one withdrawn", LAID, count -> count.draw(0, 3));
        PreferenceCount count = laid();
        count.draw(0, 999);
        count.draw(2, 0);
        count.draw(4, 2);
        count.draw(0, 4);
        count.draw(1, 999);
        checks.refusesArgument("draw(4, 4)", () -> count.draw(4, 4));
        checks.refusesArgument("draw(0, 2)", () -> count.draw(0, 2));
        count.draw(4, 5);
        count.draw(0, 2);
    }

    /** Likewise: a number that only a candidate of a greater count before had is free. */
    private void promise03DrawOfACountBefore() {
        PreferenceCount count = begun(12, 1);
        count.draw(0, 77);
        count.begin(3, 1);
        count.draw(0, 11);
        count.draw(1, 77);
        count.draw(2, 0);
        for (int candidate = 0; candidate < 3; candidate++) {
            count.lay(row(candidate), 1);
        }
        count.open();
        steps(count, "17 16");
    }

    /** "IllegalStateException: the count has begun.", also where the arguments are wrong, and when it is over */
    private void promise03DrawWhenBegun() {
        int[][] calls = {{1, 500}, {0, 999}, {1, 0}, {5, 500}, {-1, 1000}, {3, 500}, {LEAST, MOST}};
        for (int[] call : calls) {
            String text = "draw(" + call[0] + ", " + call[1] + ")";
            refusesState(text, OPENED, count -> count.draw(call[0], call[1]));
            refusesState(text, ENDED, count -> count.draw(call[0], call[1]));
        }
    }

    /** "A candidate is withdrawn: EXCLUDED from now on.", in their order */
    private void promise04WithdrawnFromNowOn() {
        PreferenceCount count = begun(12, 1);
        for (int withdrawn = 1; withdrawn <= 10; withdrawn++) {
            count.withdraw(withdrawn);
            checks.same("status(" + withdrawn + ")", count.status(withdrawn), -withdrawn);
            states(count, "12 1 0 0 -1 0 " + withdrawn + " " + (12 - withdrawn));
        }
        checks.refusesArgument("an eleventh", () -> count.withdraw(11));
        statuses(count, "0 -1 -2 -3 -4 -5 -6 -7 -8 -9 -10 0");
    }

    /** "there is no such candidate" */
    private void promise04WithdrawNoCandidate() {
        int[] wrong = {-1, 5, 6, 11, 12, 16, MOST, LEAST};
        for (int candidate : wrong) {
            refusesArgument("withdraw(" + candidate + ")", LAID, count -> count.withdraw(candidate));
        }
    }

    /** "it was withdrawn already", though one more might go */
    private void promise04WithdrawTwice() {
        refusesArgument("withdraw(3)", LAID, count -> count.withdraw(3));
        PreferenceCount count = laid();
        count.withdraw(0);
        statuses(count, "-2 0 0 -1 0");
    }

    /** "or fewer than seats and one would be left": just seats and one may be left, for each number of seats */
    private void promise04WithdrawLeavesSeatsAndOne() {
        for (int seats = 1; seats <= 4; seats++) {
            int fewest = seats + 1;
            int number = seats;
            refusesArgument("withdraw(0) of seats and one", () -> begun(fewest, number), count -> count.withdraw(0));
            PreferenceCount count = begun(fewest + 1, seats);
            count.withdraw(0);
            checks.same("state(7)", count.state(7), fewest);
            checks.refusesArgument("withdraw(1)", () -> count.withdraw(1));
            checks.same("state(7)", count.state(7), fewest);
            checks.same("status(1)", count.status(1), 0);
        }
    }

    /** "IllegalStateException: the count has begun.", also where the candidate is wrong, and when it is over */
    private void promise04WithdrawWhenBegun() {
        int[] candidates = {0, 1, 2, 3, 5, -1, MOST, LEAST};
        for (int candidate : candidates) {
            refusesState("withdraw(" + candidate + ")", OPENED, count -> count.withdraw(candidate));
            refusesState("withdraw(" + candidate + ")", ENDED, count -> count.withdraw(candidate));
        }
    }

    /** "So many papers (1 to 50) alike are laid: how many there are then." */
    private void promise05LayOneToFifty() {
        for (int papers = 1; papers <= 50; papers++) {
            PreferenceCount count = begun(2, 1);
            checks.same("lay(.., " + papers + ")", count.lay(row(1), papers), papers);
            checks.same("state(2)", count.state(2), papers);
        }
        int[] wrong = {0, -1, -50, 51, 52, 256 + 1, 65536 + 1, MOST, LEAST, LEAST + 1};
        for (int papers : wrong) {
            refusesArgument("lay(.., " + papers + ")", NEW, count -> count.lay(row(1), papers));
            refusesArgument("lay(.., " + papers + ")", LAID, count -> count.lay(row(1), papers));
        }
    }

    /** "or there would be more than 50 papers", however many lie there, and where the sum wraps around */
    private void promise05LayNoMoreThanFifty() {
        for (int papers = 1; papers <= 50; papers++) {
            int laid = papers;
            PreferenceCount count = begun(2, 1);
            count.lay(row(0), laid);
            checks.refusesArgument("one too many", () -> count.lay(row(1), 51 - laid));
            checks.refusesArgument("far too many", () -> count.lay(row(1), MOST - laid + 1));
            checks.refusesArgument("as many as there are numbers", () -> count.lay(row(1), MOST));
            checks.refusesArgument("fewer than none", () -> count.lay(row(1), -laid));
            checks.same("state(2)", count.state(2), laid);
            if (laid < 50) {
                checks.same("just 50", count.lay(row(1), 50 - laid), 50);
            }
        }
    }

    /** Likewise: 50 rows of one paper each can be laid, and 50 again behind begin. */
    private void promise05LayFiftyRows() {
        PreferenceCount count = new PreferenceCount();
        for (int turn = 0; turn < 3; turn++) {
            count.begin(5, 1);
            for (int papers = 1; papers <= 50; papers++) {
                checks.same("lay", count.lay(row(papers % 5, (papers + 1) % 5), 1), papers);
            }
            checks.refusesArgument("a 51st row", () -> count.lay(row(0), 1));
            checks.same("open", count.open(), 25);
            totals(count, 0, "10 10 10 10 10 0");
        }
    }

    /** "The row has four bits for each rank, the first one lowest: a candidate's number and one" */
    private void promise05LayFirstRankIsLowest() {
        PreferenceCount count = begun(12, 1);
        count.lay(0xC1L, 1);
        count.lay(0x1CL, 2);
        count.lay(0x7654321L, 3);
        count.lay(0xC654321L, 4);
        count.lay(0x16789ABL, 5);
        checks.same("open", count.open(), 15);
        totals(count, 0, "8 0 0 0 0 0 0 0 0 0 5 2 0");
    }

    /** "0 and all above it are none": whatever stands there, one twice, one that there is not, or more than 7 */
    private void promise05LayNoneAboveZero() {
        long[] rows = {0x10000001L, 0x101L, 0xF01L, 0xFFFFFFFFFFFFFF01L, 0x8000000000000001L, 0x1111111111111101L,
            0xFEDCBA9876543201L, 0x2300000000000001L};
        for (long row : rows) {
            PreferenceCount count = begun(3, 1);
            checks.same("lay(" + Long.toHexString(row) + ")", count.lay(row, 1), 1);
            count.lay(row(1), 2);
            count.lay(row(2), 2);
            checks.same("open", count.open(), 5);
            totals(count, 0, "1 2 2 0");
            checks.same("step", count.step(), 16);
            totals(count, 1, "0 2 2 1");
        }
        PreferenceCount seven = begun(7, 1);
        checks.same("7, then none", seven.lay(0xFFFFFFFF07654321L, 1), 1);
    }

    /** "the row has no candidate" */
    private void promise05LayNoCandidate() {
        long[] rows = {0L, 0x10L, 0x100L, 0x7654320L * 16, 0xFFFFFFFFFFFFFFF0L, Long.MIN_VALUE};
        for (long row : rows) {
            refusesArgument("lay(" + Long.toHexString(row) + ")", LAID, count -> count.lay(row, 1));
        }
    }

    /** "more than 7": 8 to 16 ranks, all of candidates that there are */
    private void promise05LayMoreThanSeven() {
        long[] rows = {0x87654321L, 0x123456789L, 0xCBA987654321L, 0x87654321_87654321L, 0x1000000087654321L,
            0x9ABCL << 48 | 0x123456789ABCL};
        for (long row : rows) {
            refusesArgument("lay(" + Long.toHexString(row) + ")", () -> fullCount(), count -> count.lay(row, 1));
        }
    }

    /** Few stages, so that all can be asked twice within 512 calls: the others went before. */
    private static PreferenceCount fullCount() {
        PreferenceCount count = begun(12, 1);
        for (int candidate = 3; candidate < 12; candidate++) {
            count.withdraw(candidate);
        }
        return count;
    }

    /** "one that there is not": each number beyond the candidates, on the first, a middle and the seventh rank */
    private void promise05LayNoSuchCandidate() {
        for (int candidates = 2; candidates <= 12; candidates++) {
            PreferenceCount count = begun(candidates, 1);
            for (int beyond = candidates; beyond < 15; beyond++) {
                int none = beyond;
                checks.refusesArgument("the first is " + none, () -> count.lay(row(none), 1));
                checks.refusesArgument("the second is " + none, () -> count.lay(row(0, none), 1));
                checks.refusesArgument("the second of three is " + none, () -> count.lay(row(0, none, 1), 1));
            }
            checks.same("state(2)", count.state(2), 0);
        }
        refusesArgument("the seventh", () -> begun(6, 1), count -> count.lay(row(0, 1, 2, 3, 4, 5, 6), 1));
        refusesArgument("of a count before", () -> {
            PreferenceCount count = begun(12, 1);
            count.begin(3, 1);
            return count;
        }, count -> count.lay(row(3), 1));
    }

    /** "one twice", on each two of seven ranks */
    private void promise05LayOneTwice() {
        PreferenceCount count = begun(12, 1);
        for (int first = 0; first < 7; first++) {
            for (int second = first + 1; second < 7; second++) {
                int[] ranks = {5, 6, 7, 8, 9, 10, 11};
                ranks[second] = ranks[first];
                checks.refusesArgument("ranks " + first + " and " + second, () -> count.lay(row(ranks), 1));
            }
        }
        checks.refusesArgument("two ranks alone", () -> count.lay(row(11, 11), 1));
        checks.refusesArgument("the first candidate", () -> count.lay(row(0, 0), 1));
        checks.same("state(2)", count.state(2), 0);
        refusesArgument("one twice", LAID, laid -> laid.lay(row(4, 2, 4), 1));
    }

    /** One that was withdrawn is a candidate still, so that it may stand on a paper. */
    private void promise05LayOneWithdrawn() {
        PreferenceCount count = laid();
        checks.same("lay", count.lay(row(3), 1), 13);
        checks.same("lay", count.lay(row(4, 3, 0), 2), 15);
    }

    /** "IllegalStateException: the count has begun.", also where the arguments are wrong, and when it is over */
    private void promise05LayWhenBegun() {
        long[] rows = {row(0), 0, row(0, 0), row(9), -1, row(3)};
        int[] papers = {1, 0, 51, MOST, LEAST};
        for (long row : rows) {
            for (int number : papers) {
                String call = "lay(" + Long.toHexString(row) + ", " + number + ")";
                refusesState(call, OPENED, count -> count.lay(row, number));
                refusesState(call, ENDED, count -> count.lay(row, number));
            }
        }
    }

    /** "Stage 0: the upper number of the quota in lowest terms.", from 1 to 50 */
    private void promise06OpenInLowestTerms() {
        int[][] due = {{1, 1, 1}, {1, 4, 1}, {2, 1, 1}, {3, 2, 1}, {4, 3, 1}, {5, 4, 1}, {50, 1, 25}, {50, 2, 50},
            {50, 3, 25}, {50, 4, 10}, {49, 1, 49}, {49, 3, 49}, {46, 3, 23}};
        for (int[] one : due) {
            PreferenceCount count = begun(5, one[1]);
            count.lay(row(4), one[0]);
            checks.same(one[0] + " papers for " + one[1] + " seats", count.open(), one[2]);
            checks.same("state(4)", count.state(4), 0);
        }
    }

    /** "or there are no papers": of a new object, behind begin, and where all that were to be laid were refused */
    private void promise06OpenWithoutPapers() {
        checks.refusesState("open() of a new object", () -> new PreferenceCount().open());
        PreferenceCount count = ended();
        count.begin(3, 1);
        checks.refusesState("open() behind begin", () -> count.open());
        checks.refusesArgument("lay(0, 1)", () -> count.lay(0, 1));
        checks.refusesState("open() behind a refused paper", () -> count.open());
        states(count, "3 1 0 0 -1 0 0 3");
        checks.refusesIndex("total(0, 0)", () -> count.total(0, 0, false));
        count.draw(0, 3);
        checks.same("lay", count.lay(row(1), 1), 1);
        checks.same("open", count.open(), 1);
    }

    /** "the count has begun", at stage 0, later, and when it is over */
    private void promise06OpenTwice() {
        refusesState("open() at stage 0", OPENED, count -> count.open());
        refusesState("open() at stage 1", () -> {
            PreferenceCount count = opened();
            count.step();
            return count;
        }, count -> count.open());
        refusesState("open() when over", ENDED, count -> count.open());
    }

    /** "the number of the candidate of whom it was, or, for an EXCLUSION, that and 16": of the first and the last */
    private void promise07StepTellsWhom() {
        PreferenceCount first = begun(12, 2);
        first.lay(row(0, 11), 50);
        first.open();
        checks.same("the surplus of the first", first.step(), 0);
        PreferenceCount last = begun(12, 2);
        last.lay(row(11), 50);
        last.open();
        checks.same("the surplus of the last", last.step(), 11);
        checks.same("the exclusion of the last but one", last.step(), 26);
        PreferenceCount excluded = begun(12, 2);
        excluded.draw(0, 12);
        excluded.lay(row(1), 1);
        excluded.lay(row(2), 1);
        excluded.lay(row(3), 1);
        excluded.open();
        checks.same("the exclusion of the first", excluded.step(), 16);
        checks.same("the exclusion of the last", excluded.step(), 27);
    }

    /** Each step is one stage, up to the 11 that twelve candidates can need. */
    private void promise07StepGoesOneStage() {
        PreferenceCount count = begun(12, 1);
        count.lay(row(0), 1);
        count.lay(row(1), 1);
        count.open();
        for (int stage = 1; stage <= 11; stage++) {
            over(count, false);
            count.step();
            checks.same("state(4)", count.state(4), stage);
            checks.same("state(6)", count.state(6), stage);
        }
        over(count, true);
        totals(count, 11, "1 0 0 0 0 0 0 0 0 0 0 0 1");
    }

    /** "IllegalStateException: the count has not begun" */
    private void promise07StepBeforeOpen() {
        refusesState("step() of a new object", NEW, count -> count.step());
        refusesState("step() before open()", LAID, count -> count.step());
        PreferenceCount count = ended();
        count.begin(3, 1);
        checks.refusesState("step() behind begin", () -> count.step());
    }

    /** "or is OVER": at stage 0 already, or later */
    private void promise07StepWhenOver() {
        refusesState("step() when over", ENDED, count -> count.step());
        refusesState("step() when over at stage 0", () -> {
            PreferenceCount count = begun(3, 1);
            count.lay(row(2, 1), 3);
            count.open();
            return count;
        }, count -> count.step());
    }

    /** "Whether the count is OVER.": not before it has begun, nor behind begin */
    private void promise08Over() {
        over(new PreferenceCount(), false);
        over(laid(), false);
        over(opened(), false);
        PreferenceCount count = ended();
        over(count, true);
        over(count, true);
        count.begin(2, 1);
        over(count, false);
        count.lay(row(0), 1);
        over(count, false);
        count.open();
        over(count, true);
    }

    /** "3 the lower number of the quota (0: not begun), 4 the latest stage (-1: not begun)" */
    private void promise09StateNotBegun() {
        states(new PreferenceCount(), "2 1 0 0 -1 0 0 2");
        states(laid(), "5 2 12 0 -1 0 1 4");
        PreferenceCount count = ended();
        states(count, "5 2 12 1 3 2 3 0");
        count.begin(12, 4);
        states(count, "12 4 0 0 -1 0 0 12");
    }

    /** "7 continuing (when not begun: all that were not withdrawn)", then elected ones are less, too */
    private void promise09StateContinuing() {
        PreferenceCount count = begun(6, 2);
        checks.same("state(7)", count.state(7), 6);
        count.withdraw(5);
        checks.same("state(7)", count.state(7), 5);
        checks.same("state(6)", count.state(6), 1);
        checks.same("state(5)", count.state(5), 0);
        count.lay(row(0), 3);
        count.lay(row(1), 1);
        checks.same("state(7)", count.state(7), 5);
        count.open();
        states(count, "6 2 4 3 0 1 1 4");
        steps(count, "0 20 19 18");
        states(count, "6 2 4 3 4 2 4 0");
    }

    /** "-1 for others", in each state of a count */
    private void promise09StateOfOthers() {
        PreferenceCount[] all = {new PreferenceCount(), laid(), opened(), ended()};
        for (PreferenceCount count : all) {
            for (int what = -50; what <= 300; what++) {
                checks.holds("state(" + what + ") is -1", what >= 0 && what <= 7 || count.state(what) == -1);
            }
            int[] others = {MOST, LEAST, 65536, 1 << 24, LEAST + 7};
            for (int what : others) {
                checks.same("state(" + what + ")", count.state(what), -1);
            }
        }
    }

    /** "0 CONTINUING; k: the k-th to be ELECTED; -k: the k-th to be EXCLUDED", withdrawn ones before all others */
    private void promise10StatusTellsTheOrder() {
        PreferenceCount count = begun(7, 2);
        count.withdraw(1);
        count.withdraw(0);
        count.lay(row(2), 5);
        count.lay(row(3), 3);
        count.lay(row(4), 1);
        statuses(count, "-2 -1 0 0 0 0 0");
        checks.same("open", count.open(), 3);
        statuses(count, "-2 -1 1 0 0 0 0");
        steps(count, "2 22 21 20");
        statuses(count, "-2 -1 1 2 -5 -4 -3");
    }

    /** "IndexOutOfBoundsException: there is no such candidate.": nobody has no status either */
    private void promise10StatusOfNoCandidate() {
        PreferenceCount[] all = {laid(), opened(), ended()};
        int[] wrong = {5, 6, 11, 12, 13, -1, -5, MOST, LEAST};
        for (PreferenceCount count : all) {
            for (int candidate : wrong) {
                checks.refusesIndex("status(" + candidate + ")", () -> count.status(candidate));
            }
            checks.same("status(4)", count.status(4), count.over() ? -2 : 0);
        }
    }

    /** "of nobody's, when the number is that of candidates" */
    private void promise11TotalOfNobody() {
        PreferenceCount count = ended();
        checks.same("total(0, 5, false)", count.total(0, 5, false), 1);
        checks.same("total(3, 5, false)", count.total(3, 5, false), 5);
        checks.same("total(3, 5, true)", count.total(3, 5, true), 1);
        PreferenceCount full = begun(12, 2);
        full.lay(row(0), 49);
        full.open();
        checks.same("total(0, 12, false)", full.total(0, 12, false), 0);
        full.step();
        checks.same("total(1, 12, false)", full.total(1, 12, false), 98);
        checks.same("total(1, 12, true)", full.total(1, 12, true), 3);
    }

    /** "as a fraction in lowest terms: the upper number, or the lower one (0 is 0 / 1)", before and behind stages */
    private void promise11TotalInLowestTerms() {
        PreferenceCount count = begun(4, 2);
        count.lay(row(0, 1), 4);
        count.lay(row(0, 2), 2);
        count.lay(row(3), 2);
        checks.same("open", count.open(), 8);
        checks.same("0 / 1", count.total(0, 1, true), 1);
        checks.same("0", count.total(0, 1, false), 0);
        checks.same("step: five ninths of each", count.step(), 0);
        totals(count, 1, "8/3 20/9 10/9 2 0");
        steps(count, "18 19");
        totals(count, 2, "8/3 20/9 0 2 10/9");
        totals(count, 3, "8/3 20/9 0 0 28/9");
        checks.same("0 / 1 again", count.total(2, 2, true), 1);
    }

    /** "A candidate's total at a stage": earlier ones are told as they were */
    private void promise11TotalOfEarlierStages() {
        PreferenceCount count = opened();
        totals(count, 0, "6 1 2 0 2 1");
        count.step();
        totals(count, 0, "6 1 2 0 2 1");
        totals(count, 1, "4 3 2 0 2 1");
        steps(count, "20 18");
        totals(count, 0, "6 1 2 0 2 1");
        totals(count, 1, "4 3 2 0 2 1");
    }

    /** "IndexOutOfBoundsException: there is no such stage" */
    private void promise11TotalOfNoStage() {
        refuseStages(new PreferenceCount(), 0, 1, -1, MOST, LEAST);
        refuseStages(laid(), 0, 1, -1, 12, 13);
        refuseStages(opened(), 1, 2, -1, 12, 13, MOST, LEAST);
        refuseStages(ended(), 4, 5, -1, -4, 12, 13, MOST, LEAST);
        PreferenceCount anew = ended();
        anew.begin(5, 2);
        refuseStages(anew, 0, 1, 2, 3, -1);
        anew.lay(row(0), 1);
        refuseStages(anew, 0, 1, 2, 3, -1);
        anew.open();
        refuseStages(anew, 1, 2, 3, -1);
        checks.same("total(0, 0, false)", anew.total(0, 0, false), 1);
    }

    private void refuseStages(PreferenceCount count, int... stages) {
        for (int stage : stages) {
            refuseTotalAndMoved(count, stage, 0);
            refuseTotalAndMoved(count, stage, count.state(0));
        }
    }

    private void refuseTotalAndMoved(PreferenceCount count, int stage, int candidate) {
        String asked = "(" + stage + ", " + candidate + ")";
        checks.refusesIndex("total" + asked, () -> count.total(stage, candidate, false));
        checks.refusesIndex("the lower total" + asked, () -> count.total(stage, candidate, true));
        checks.refusesIndex("moved" + asked, () -> count.moved(stage, candidate));
    }

    /** "or candidate": one behind nobody, or below 0, at each stage; and where neither is there */
    private void promise11TotalOfNoCandidate() {
        PreferenceCount count = ended();
        int[] wrong = {6, 7, 12, 13, -1, MOST, LEAST};
        for (int candidate : wrong) {
            for (int stage = -1; stage <= 4; stage++) {
                refuseTotalAndMoved(count, stage, candidate);
            }
        }
        totals(count, 3, "4 3 0 0 0 5");
        PreferenceCount full = begun(12, 1);
        full.lay(row(11), 1);
        full.open();
        refuseTotalAndMoved(full, 0, 13);
        refuseTotalAndMoved(full, 0, 14);
    }

    /** "How many papers lie with a candidate now (with nobody, likewise)": none where a surplus was passed on */
    private void promise12PapersNow() {
        PreferenceCount count = opened();
        papers(count, "6 1 2 0 2 1");
        count.step();
        papers(count, "0 7 2 0 2 1");
        count.step();
        papers(count, "0 7 2 0 0 3");
        count.step();
        papers(count, "0 7 0 0 0 5");
    }

    /** "0 when not begun", though papers were laid */
    private void promise12PapersNotBegun() {
        papers(new PreferenceCount(), "0 0 0");
        papers(laid(), "0 0 0 0 0 0");
        PreferenceCount count = ended();
        count.begin(5, 2);
        papers(count, "0 0 0 0 0 0");
        count.lay(row(1), 50);
        papers(count, "0 0 0 0 0 0");
        count.open();
        papers(count, "0 50 0 0 0 0");
    }

    /** "IndexOutOfBoundsException: there is no such one.", begun or not */
    private void promise12PapersOfNoCandidate() {
        PreferenceCount[] all = {laid(), opened(), ended()};
        int[] wrong = {6, 7, 12, 13, -1, -2, MOST, LEAST};
        for (PreferenceCount count : all) {
            for (int candidate : wrong) {
                checks.refusesIndex("papers(" + candidate + ")", () -> count.papers(candidate));
            }
        }
        PreferenceCount full = begun(12, 1);
        checks.same("papers(12)", full.papers(12), 0);
        checks.refusesIndex("papers(13)", () -> full.papers(13));
    }

    /** "at stage 0: to their first ones": the first that continue, or nobody */
    private void promise13MovedAtStage0() {
        moves(opened(), 0, "6 1 2 0 2 1");
    }

    /** "How many papers went to a candidate (or nobody)": of all rows together, also of the same row laid twice */
    private void promise13MovedFromSeveralRows() {
        PreferenceCount count = begun(4, 1);
        count.withdraw(3);
        count.lay(row(0), 3);
        count.lay(row(0, 1), 2);
        count.lay(row(0), 4);
        count.lay(row(3, 0), 1);
        count.lay(row(1, 2), 2);
        count.lay(row(1, 3, 2), 1);
        count.lay(row(1), 3);
        count.lay(row(1, 3), 2);
        count.lay(row(2), 9);
        count.lay(row(3), 1);
        checks.same("open", count.open(), 14);
        moves(count, 0, "10 8 9 0 1");
        steps(count, "17 16");
        moves(count, 1, "0 0 3 0 5");
        moves(count, 2, "0 0 0 0 10");
        papers(count, "0 0 12 0 16");
    }

    /** "How many papers went to a candidate (or nobody) at a stage": papers, not values; 0 where none went */
    private void promise13MovedAtLaterStages() {
        PreferenceCount count = ended();
        moves(count, 0, "6 1 2 0 2 1");
        moves(count, 1, "0 6 0 0 0 0");
        moves(count, 2, "0 0 0 0 0 2");
        moves(count, 3, "0 0 0 0 0 2");
        count.begin(5, 2);
        count.lay(row(4), 1);
        count.open();
        moves(count, 0, "0 0 0 0 1 0");
        count.step();
        moves(count, 1, "0 0 0 0 0 1");
        count.step();
        moves(count, 2, "0 0 0 0 0 0");
    }

    /** "IndexOutOfBoundsException: as for total()." is tested there, for both; what is there is answered. */
    private void promise13MovedAtEachEdgeThatIsThere() {
        PreferenceCount count = ended();
        checks.same("moved(0, 0)", count.moved(0, 0), 6);
        checks.same("moved(0, 5)", count.moved(0, 5), 1);
        checks.same("moved(3, 0)", count.moved(3, 0), 0);
        checks.same("moved(3, 5)", count.moved(3, 5), 2);
    }

    /** "An object is used for at most 512 calls after it has been made": the last of them is answered as the first */
    private void whatItIs512Calls() {
        PreferenceCount count = new PreferenceCount();
        int calls = 0;
        while (calls + 8 <= 512) {
            count.begin(3, 1);
            count.lay(row(0, 1), 2);
            count.lay(row(1, 0), 2);
            count.lay(row(2, 1), 1);
            checks.same("open", count.open(), 5);
            checks.same("step", count.step(), 18);
            checks.same("status(1)", count.status(1), 1);
            checks.same("over()", "" + count.over(), "true");
            calls += 8;
        }
        checks.same("all calls", calls, 512);
    }
}
