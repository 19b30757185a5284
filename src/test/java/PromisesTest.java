/** Each promise of the document, one method for each, with counts that were reckoned by hand. */
public final class PromisesTest extends CountCase {
    private PromisesTest() {
        super("promises");
    }

    public static void main(String[] args) {
        new PromisesTest().runAll();
    }

    private void promise1NewObject() {
        PreferenceCount count = new PreferenceCount();
        states(count, "2 1 0 0 -1 0 0 2");
        statuses(count, "0 0");
        papers(count, "0 0 0");
        over(count, false);
        checks.refusesState("open() without papers", () -> count.open());
        checks.refusesState("step() on a new object", () -> count.step());
        checks.same("lay", count.lay(row(1), 1), 1);
        checks.same("open", count.open(), 1);
    }

    private void promise2Begin() {
        PreferenceCount count = new PreferenceCount();
        int[][] right = {{2, 1}, {12, 4}, {12, 1}, {5, 4}, {3, 2}, {4, 3}};
        for (int[] pair : right) {
            count.begin(pair[0], pair[1]);
            states(count, pair[0] + " " + pair[1] + " 0 0 -1 0 0 " + pair[0]);
        }
        count.begin(4, 2);
        count.lay(row(3), 5);
        count.withdraw(0);
        int most = Integer.MAX_VALUE;
        int[][] wrong = {{1, 1}, {13, 1}, {0, 0}, {-1, 1}, {3, 3}, {4, 4}, {2, 2}, {3, 0}, {3, -1}, {12, 5}, {2, 4},
            {most, 1}, {Integer.MIN_VALUE, 1}, {12, most}, {12, Integer.MIN_VALUE}};
        for (int[] pair : wrong) {
            checks.refusesArgument("begin(" + pair[0] + ", " + pair[1] + ")", () -> count.begin(pair[0], pair[1]));
            states(count, "4 2 5 0 -1 0 1 3");
        }
        count.open();
        checks.refusesArgument("begin(3, 3)", () -> count.begin(3, 3));
        states(count, "4 2 5 3 0 1 1 2");
    }

    private void promise2BeginForgetsAll() {
        PreferenceCount count = begun(4, 1);
        count.draw(0, 900);
        count.withdraw(3);
        count.lay(row(0), 3);
        count.lay(row(1), 3);
        count.open();
        checks.same("step", count.step(), 18);
        checks.same("step: the greater draw goes", count.step(), 16);
        over(count, true);
        count.begin(4, 1);
        states(count, "4 1 0 0 -1 0 0 4");
        statuses(count, "0 0 0 0");
        papers(count, "0 0 0 0 0");
        over(count, false);
        checks.refusesIndex("total(0, 0) of the count before", () -> count.total(0, 0, false));
        checks.refusesIndex("moved(0, 0) of the count before", () -> count.moved(0, 0));
        checks.refusesState("open() without papers", () -> count.open());
        checks.same("lay", count.lay(row(0), 2), 2);
        checks.same("lay", count.lay(row(1), 2), 4);
        checks.same("open", count.open(), 2);
        totals(count, 0, "2 2 0 0 0");
        moves(count, 0, "2 2 0 0 0");
        checks.same("step", count.step(), 19);
        moves(count, 1, "0 0 0 0 0");
        checks.same("step", count.step(), 18);
        checks.same("step: the draws are their numbers again", count.step(), 17);
        // a count that is under way may be left, too
        count.begin(3, 2);
        count.lay(row(2), 1);
        checks.same("open", count.open(), 1);
        totals(count, 0, "0 0 1 0");
    }

    private void promise3Draw() {
        PreferenceCount count = begun(3, 1);
        count.draw(0, 999);
        count.draw(1, 0);
        count.draw(1, 0);
        count.draw(2, 1);
        checks.refusesArgument("a draw that another has", () -> count.draw(2, 999));
        checks.refusesArgument("a draw that another has", () -> count.draw(0, 1));
        checks.refusesArgument("draw(0, 1000)", () -> count.draw(0, 1000));
        checks.refusesArgument("draw(0, -1)", () -> count.draw(0, -1));
        checks.refusesArgument("draw(3, 5)", () -> count.draw(3, 5));
        checks.refusesArgument("draw(-1, 5)", () -> count.draw(-1, 5));
        checks.refusesArgument("draw(MAX, 5)", () -> count.draw(Integer.MAX_VALUE, 5));
        checks.refusesArgument("draw(MIN, 5)", () -> count.draw(Integer.MIN_VALUE, 5));
        count.lay(row(0), 1);
        count.lay(row(1), 1);
        count.lay(row(2), 1);
        count.open();
        checks.refusesState("draw when begun", () -> count.draw(0, 4));
        checks.refusesState("draw when begun, of nobody", () -> count.draw(9, -4));
        checks.same("step: draw 999 goes first", count.step(), 16);
        checks.same("step: then draw 1", count.step(), 18);
        statuses(count, "-1 1 -2");

        PreferenceCount other = begun(12, 1);
        other.withdraw(4);
        other.draw(4, 50);
        checks.refusesArgument("the draw of one withdrawn", () -> other.draw(5, 50));
        other.draw(5, 4);
        // numbers that a bigger count before used are free
        other.begin(3, 1);
        other.draw(0, 5);
        other.draw(1, 0);
        checks.refusesArgument("draw(2, 5)", () -> other.draw(2, 5));
    }

    private void promise4Withdraw() {
        PreferenceCount count = begun(6, 2);
        checks.refusesArgument("withdraw(6)", () -> count.withdraw(6));
        checks.refusesArgument("withdraw(-1)", () -> count.withdraw(-1));
        checks.refusesArgument("withdraw(MAX)", () -> count.withdraw(Integer.MAX_VALUE));
        checks.refusesArgument("withdraw(MIN)", () -> count.withdraw(Integer.MIN_VALUE));
        count.withdraw(3);
        checks.refusesArgument("withdraw(3) again", () -> count.withdraw(3));
        count.withdraw(0);
        statuses(count, "-2 0 0 -1 0 0");
        count.withdraw(5);
        checks.refusesArgument("withdraw(1): two would be left", () -> count.withdraw(1));
        states(count, "6 2 0 0 -1 0 3 3");
        statuses(count, "-2 0 0 -1 0 -3");
        count.lay(row(0, 3, 4, 1), 2);
        count.lay(row(1), 4);
        count.lay(row(5, 3), 3);
        checks.same("open", count.open(), 3);
        totals(count, 0, "0 4 0 0 2 0 3");
        checks.refusesState("withdraw when begun", () -> count.withdraw(2));
        checks.refusesState("withdraw when begun, of nobody", () -> count.withdraw(17));
        checks.same("step", count.step(), 1);
        checks.same("step", count.step(), 18);
        statuses(count, "-2 1 -4 -1 2 -3");
        over(count, true);

        PreferenceCount small = new PreferenceCount();
        checks.refusesArgument("withdraw(0) of two", () -> small.withdraw(0));
        statuses(small, "0 0");
    }

    private void promise5Lay() {
        PreferenceCount count = begun(12, 1);
        checks.same("one rank", count.lay(row(11), 1), 1);
        checks.same("seven ranks", count.lay(row(6, 5, 4, 3, 2, 1, 0), 2), 3);
        checks.same("what is above 0 is none", count.lay(0x5550F0FF0000001L << 4 | 0x2L, 3), 6);
        checks.same("likewise with the highest bit", count.lay(0x8000000000000003L, 4), 10);
        checks.same("seven ranks, then 0, then more", count.lay(0xFFFFFFFF01234567L, 5), 15);
        checks.same("the same row again", count.lay(row(11), 34), 49);
        checks.same("up to 50", count.lay(row(0), 1), 50);
        checks.refusesArgument("a 51st", () -> count.lay(row(0), 1));
        checks.same("state(2)", count.state(2), 50);
        count.open();
        totals(count, 0, "1 3 4 0 0 0 7 0 0 0 0 35 0");
        checks.refusesState("lay when begun", () -> count.lay(row(0), 1));
        checks.refusesState("lay when begun, nothing", () -> count.lay(0, 0));

        PreferenceCount last = begun(8, 1);
        for (int candidate = 0; candidate < 6; candidate++) {
            last.withdraw(candidate);
        }
        last.lay(row(0, 1, 2, 3, 4, 5, 7), 2);
        last.open();
        checks.same("the seventh rank counts", last.total(0, 7, false), 2);

        PreferenceCount whole = begun(2, 1);
        checks.same("50 at once", whole.lay(row(1, 0), 50), 50);
        PreferenceCount single = begun(3, 1);
        for (int papers = 1; papers <= 50; papers++) {
            checks.same("one by one", single.lay(row(papers % 3), 1), papers);
        }
        checks.same("open", single.open(), 25);
        totals(single, 0, "16 17 17 0");
    }

    private void promise5LayRefuses() {
        PreferenceCount count = begun(11, 2);
        count.withdraw(10);
        checks.same("a withdrawn one may be ranked", count.lay(row(10, 0), 10), 10);
        long[] wrong = {0L, 0x10L, 0xFFFFFFFFFFFFFFF0L, 0x87654321L, 0x187654321L, -1L, 0x1111111111111111L,
            0xCL, 0xFL, 0x1CL, 0xC1L, 0xF7654321L, 0x11L, 0x121L, 0x1765432A1L, 0x1654321L, 0x7654327L,
            Long.MIN_VALUE, 0xFEDCBA9876543210L};
        for (long row : wrong) {
            checks.refusesArgument("the row " + Long.toHexString(row), () -> count.lay(row, 1));
            checks.same("state(2)", count.state(2), 10);
        }
        int[] wrongNumbers = {0, -1, 41, 50, 51, Integer.MAX_VALUE, Integer.MIN_VALUE, Integer.MAX_VALUE - 9};
        for (int papers : wrongNumbers) {
            checks.refusesArgument(papers + " papers", () -> count.lay(row(0), papers));
            checks.same("state(2)", count.state(2), 10);
        }
        checks.same("40 more", count.lay(row(0), 40), 50);
        count.open();
        totals(count, 0, "50 0 0 0 0 0 0 0 0 0 0 0");
    }

    private void promise6Open() {
        int[][] due = {{1, 1, 1, 2}, {2, 1, 1, 1}, {50, 1, 25, 1}, {49, 1, 49, 2}, {50, 2, 50, 3}, {48, 2, 16, 1},
            {50, 3, 25, 2}, {49, 3, 49, 4}, {48, 3, 12, 1}, {50, 4, 10, 1}, {47, 4, 47, 5}, {1, 4, 1, 5}};
        for (int[] one : due) {
            PreferenceCount count = begun(6, one[1]);
            checks.refusesState("open() without papers", () -> count.open());
            states(count, "6 " + one[1] + " 0 0 -1 0 0 6");
            count.lay(row(2), one[0]);
            checks.same("the upper number of " + one[0] + " / " + (one[1] + 1), count.open(), one[2]);
            checks.same("the lower number of " + one[0] + " / " + (one[1] + 1), count.state(3), one[3]);
            checks.same("the stage", count.state(4), 0);
            checks.refusesState("open() again", () -> count.open());
            checks.same("the stage", count.state(4), 0);
        }
        // two above the quota at once: the greater total first, the rest stays
        PreferenceCount count = begun(4, 2);
        count.lay(row(3), 5);
        count.lay(row(1), 6);
        count.lay(row(0), 2);
        checks.same("open", count.open(), 13);
        statuses(count, "0 1 0 2");
        over(count, true);
        // just the quota is not above it
        count.begin(3, 1);
        count.lay(row(0), 4);
        count.lay(row(1), 3);
        count.lay(row(2), 1);
        checks.same("open", count.open(), 4);
        statuses(count, "0 0 0");
        over(count, false);
    }

    /** Quota 4; the surplus of candidate 0 is 2 of 6, so its papers go on for a third each. */
    private static PreferenceCount sample() {
        PreferenceCount count = begun(4, 2);
        count.lay(row(0, 1), 4);
        count.lay(row(0, 2), 1);
        count.lay(row(0), 1);
        count.lay(row(1), 2);
        count.lay(row(2, 3), 3);
        count.lay(row(3, 0, 1), 1);
        return count;
    }

    private void promise7StepSurplusThenExclusion() {
        PreferenceCount count = sample();
        checks.same("open", count.open(), 4);
        totals(count, 0, "6 2 3 1 0");
        moves(count, 0, "6 2 3 1 0");
        checks.same("step: a surplus", count.step(), 0);
        totals(count, 1, "4 10/3 10/3 1 1/3");
        moves(count, 1, "0 4 1 0 1");
        papers(count, "0 6 4 1 1");
        over(count, false);
        checks.same("step: an exclusion", count.step(), 19);
        totals(count, 2, "4 13/3 10/3 0 1/3");
        moves(count, 2, "0 1 0 0 0");
        papers(count, "0 7 4 0 1");
        statuses(count, "1 2 0 -1");
        over(count, true);
        states(count, "4 2 12 1 2 2 1 1");
        totals(count, 0, "6 2 3 1 0");
    }

    /** Two with the same surplus: the lesser draw first; its papers pass over the other one, elected already. */
    private void promise7StepTiesOfSurpluses() {
        PreferenceCount count = begun(5, 3);
        count.draw(0, 20);
        count.lay(row(0, 3), 5);
        count.lay(row(1, 0, 2), 5);
        count.lay(row(2), 1);
        count.lay(row(3), 1);
        checks.same("open", count.open(), 3);
        statuses(count, "2 1 0 0 0");
        checks.same("step: the lesser draw", count.step(), 1);
        totals(count, 1, "5 3 3 1 0 0");
        checks.same("step: the other one", count.step(), 0);
        totals(count, 2, "3 3 3 3 0 0");
        statuses(count, "2 1 0 0 0");
        checks.same("step: nobody is above the quota", count.step(), 20);
        checks.same("step: stage 1 tells them apart", count.step(), 19);
        totals(count, 4, "3 3 3 0 0 3");
        moves(count, 4, "0 0 0 0 0 6");
        papers(count, "0 0 6 0 0 6");
        statuses(count, "2 1 3 -2 -1");
        over(count, true);

        // the greater surplus goes first, whatever the draw
        PreferenceCount other = begun(5, 3);
        other.lay(row(0, 3), 4);
        other.lay(row(1, 2), 3);
        other.lay(row(1, 4), 2);
        other.lay(row(2), 1);
        other.lay(row(3), 1);
        checks.same("open", other.open(), 11);
        checks.same("step", other.step(), 1);
        totals(other, 1, "4 11/4 47/20 1 9/10 0");
        checks.same("step", other.step(), 0);
        totals(other, 2, "11/4 11/4 47/20 9/4 9/10 0");

        // elected later, but with the greater total now
        PreferenceCount later = begun(6, 4);
        later.lay(row(0, 1), 20);
        later.lay(row(1, 3), 9);
        later.lay(row(2, 3), 11);
        later.lay(row(3), 4);
        later.lay(row(4), 6);
        checks.same("open", later.open(), 10);
        statuses(later, "1 0 2 0 0 0");
        checks.same("step", later.step(), 0);
        statuses(later, "1 3 2 0 0 0");
        checks.same("step: 19 is more than 11", later.step(), 1);
        totals(later, 2, "10 10 11 157/19 6 0 90/19");
        checks.same("step", later.step(), 2);
    }

    private void promise7StepTiesOfExclusions() {
        PreferenceCount count = begun(4, 1);
        count.draw(3, 500);
        count.draw(1, 501);
        count.lay(row(0, 2), 1);
        count.lay(row(1, 2), 1);
        count.lay(row(2, 1), 1);
        count.lay(row(3, 2), 1);
        count.open();
        checks.same("step: draw 501", count.step(), 17);
        checks.same("step: draw 500", count.step(), 19);
        totals(count, 2, "1 0 3 0 0");
        statuses(count, "0 -1 1 -2");
    }

    /** 0 leads at stage 0, 1 at stage 1, none at stage 2. */
    private void promise7StepLatestStageDecides() {
        PreferenceCount count = begun(4, 1);
        count.lay(row(0), 4);
        count.lay(row(1), 3);
        count.lay(row(2, 1), 2);
        count.lay(row(3, 0), 1);
        count.lay(row(3), 2);
        checks.same("open", count.open(), 6);
        checks.same("step", count.step(), 18);
        totals(count, 1, "4 5 0 3 0");
        checks.same("step", count.step(), 19);
        totals(count, 2, "5 5 0 0 2");
        checks.same("step", count.step(), 16);
        totals(count, 3, "0 5 0 0 7");
        statuses(count, "-3 1 -1 -2");

        // the same for the order of being elected: both are elected behind stage 2, with 4 each
        PreferenceCount elected = begun(4, 2);
        elected.lay(row(0), 3);
        elected.lay(row(1), 2);
        elected.lay(row(2, 0), 1);
        elected.lay(row(2, 1), 2);
        elected.lay(row(3), 4);
        checks.same("open", elected.open(), 4);
        checks.same("step: 1 has the least", elected.step(), 17);
        checks.same("step: 2 and 0 have 3, 2 has the greater draw", elected.step(), 18);
        totals(elected, 2, "4 0 0 4 4");
        statuses(elected, "2 -1 -2 1");
        over(elected, true);
    }

    /** Quota 4: 0 passes on halves, 1 then three sevenths of what it has. */
    private void promise7StepSecondSurplus() {
        PreferenceCount count = begun(5, 3);
        count.lay(row(0, 1, 2), 7);
        count.lay(row(0, 1, 3), 1);
        count.lay(row(1, 0, 2), 3);
        count.lay(row(3), 3);
        count.lay(row(4), 2);
        checks.same("open", count.open(), 4);
        checks.same("step", count.step(), 0);
        totals(count, 1, "4 7 0 3 2 0");
        statuses(count, "1 2 0 0 0");
        checks.same("step", count.step(), 1);
        totals(count, 2, "4 4 39/14 45/14 2 0");
        moves(count, 2, "0 0 10 1 0 0");
        papers(count, "0 0 10 4 2 0");
        checks.same("step", count.step(), 20);
        totals(count, 3, "4 4 39/14 45/14 0 2");
        checks.same("step", count.step(), 18);
        totals(count, 4, "4 4 0 45/14 0 67/14");
        statuses(count, "1 2 -2 3 -1");
        over(count, true);
    }

    /** As many stages as there can be. */
    private void promise7StepAllExclusions() {
        PreferenceCount count = begun(12, 1);
        for (int candidate = 0; candidate < 12; candidate++) {
            count.lay(row(candidate, 11 - candidate), candidate < 2 ? 1 : 2);
        }
        count.open();
        for (int stage = 1; stage <= 11; stage++) {
            over(count, false);
            checks.same("exclusion", count.step() >> 4, 1);
            checks.same("the stage", count.state(4), stage);
        }
        over(count, true);
        checks.same("elected", count.state(5), 1);
        checks.same("excluded", count.state(6), 11);

        PreferenceCount mixed = begun(12, 4);
        mixed.lay(row(0, 1, 2, 3), 34);
        for (int candidate = 4; candidate < 12; candidate++) {
            mixed.lay(row(candidate), 2);
        }
        checks.same("open", mixed.open(), 10);
        int stages = 0;
        while (stages < 20 && !mixed.over()) {
            mixed.step();
            stages++;
        }
        checks.same("the latest stage", mixed.state(4), stages);
        checks.same("3 surpluses and 8 exclusions", stages, 11);
        totals(mixed, 1, "10 24 0 0 2 2 2 2 2 2 2 2 0");
        totals(mixed, 3, "10 10 10 4 2 2 2 2 2 2 2 2 0");
        totals(mixed, 11, "10 10 10 4 0 0 0 0 0 0 0 0 16");
        checks.same("elected", mixed.state(5), 4);
        checks.same("excluded", mixed.state(6), 8);
    }

    private void promise7StepRefuses() {
        PreferenceCount count = sample();
        checks.refusesState("step() before open()", () -> count.step());
        states(count, "4 2 12 0 -1 0 0 4");
        count.open();
        count.step();
        count.step();
        checks.refusesState("step() when over", () -> count.step());
        states(count, "4 2 12 1 2 2 1 1");
        checks.refusesState("open() when over", () -> count.open());
        checks.refusesState("lay() when over", () -> count.lay(row(0), 1));
        checks.refusesState("draw() when over", () -> count.draw(0, 0));
        checks.refusesState("withdraw() when over", () -> count.withdraw(0));
        states(count, "4 2 12 1 2 2 1 1");
    }

    private void promise8Over() {
        PreferenceCount count = sample();
        over(count, false);
        count.open();
        over(count, false);
        count.step();
        over(count, false);
        count.step();
        over(count, true);
        checks.refusesArgument("begin(1, 1)", () -> count.begin(1, 1));
        over(count, true);
        count.begin(2, 1);
        over(count, false);
        // over at stage 0, since the seats are filled
        count.lay(row(1), 1);
        count.open();
        over(count, true);
        statuses(count, "0 1");
        // over since nobody is spare, with less than the quota: the greater total is elected first
        PreferenceCount spare = begun(3, 2);
        spare.lay(row(2), 3);
        spare.lay(row(0), 4);
        spare.lay(row(1), 4);
        checks.same("open", spare.open(), 11);
        statuses(spare, "1 2 0");
        spare.begin(4, 2);
        spare.lay(row(0), 5);
        spare.lay(row(1), 4);
        spare.lay(row(2), 5);
        spare.lay(row(3), 4);
        spare.open();
        spare.step();
        over(spare, false);
        spare.step();
        over(spare, true);
        statuses(spare, "1 -2 2 -1");
        totals(spare, 2, "5 0 5 0 8");
    }

    private void promise9State() {
        PreferenceCount count = begun(5, 3);
        states(count, "5 3 0 0 -1 0 0 5");
        count.withdraw(1);
        count.lay(row(1), 2);
        count.lay(row(4), 1);
        states(count, "5 3 3 0 -1 0 1 4");
        count.open();
        states(count, "5 3 3 4 0 1 1 3");
        count.step();
        states(count, "5 3 3 4 1 1 1 3");
        count.step();
        states(count, "5 3 3 4 2 3 2 0");
        over(count, true);
        int[] others = {8, -1, 9, 100, Integer.MAX_VALUE, Integer.MIN_VALUE};
        for (int what : others) {
            checks.same("state(" + what + ")", count.state(what), -1);
            checks.same("state(" + what + ")", new PreferenceCount().state(what), -1);
        }
    }

    private void promise10Status() {
        PreferenceCount count = sample();
        int[] wrong = {4, 5, 12, 13, -1, Integer.MAX_VALUE, Integer.MIN_VALUE};
        for (int candidate : wrong) {
            checks.refusesIndex("status(" + candidate + ")", () -> count.status(candidate));
        }
        statuses(count, "0 0 0 0");
        count.withdraw(2);
        statuses(count, "0 0 -1 0");
        count.open();
        // with candidate 2 gone its papers lie with 3, so 0 has 6 and 3 has 4
        statuses(count, "1 0 -1 0");
        count.step();
        statuses(count, "1 0 -1 0");
        count.step();
        statuses(count, "1 -2 -1 2");
        for (int candidate : wrong) {
            checks.refusesIndex("status(" + candidate + ")", () -> count.status(candidate));
        }
    }

    private void promise11Total() {
        PreferenceCount count = sample();
        checks.refusesIndex("total when not begun", () -> count.total(0, 0, false));
        checks.refusesIndex("total when not begun", () -> count.total(-1, 0, true));
        count.open();
        count.step();
        checks.same("the upper number of 10/3", count.total(1, 1, false), 10);
        checks.same("the lower number of 10/3", count.total(1, 1, true), 3);
        checks.same("0 is 0", count.total(0, 4, false), 0);
        checks.same("0 is 0 / 1", count.total(0, 4, true), 1);
        checks.same("nobody's", count.total(1, 4, true), 3);
        int[][] wrong = {{2, 0}, {13, 0}, {-1, 0}, {0, 5}, {1, -1}, {0, 13}, {Integer.MAX_VALUE, 0},
            {Integer.MIN_VALUE, 0}, {0, Integer.MAX_VALUE}, {0, Integer.MIN_VALUE}, {2, 5}};
        for (int[] pair : wrong) {
            String call = "total(" + pair[0] + ", " + pair[1] + ")";
            checks.refusesIndex(call, () -> count.total(pair[0], pair[1], false));
            checks.refusesIndex(call, () -> count.total(pair[0], pair[1], true));
        }
    }

    /** Three surpluses with hardly a divisor in common; the numbers were reckoned by PlainCount, without limits. */
    private void promise11TotalNeedsLongs() {
        PreferenceCount count = begun(5, 4);
        PlainCount plain = new PlainCount();
        plain.begin(5, 4);
        long[] rows = {0x51432L, 0x1253L, 0x54L, 0x352L, 0x32L};
        int[] papers = {43, 1, 1, 3, 1};
        for (int i = 0; i < rows.length; i++) {
            count.lay(rows[i], papers[i]);
            plain.lay(rows[i], papers[i]);
        }
        checks.same("open", count.open(), plain.open());
        for (int stage = 1; stage <= 3; stage++) {
            checks.same("step", count.step(), plain.step());
        }
        over(count, true);
        checks.same("the upper number", count.total(3, 0, false), 1541104771591968L);
        checks.same("the lower number", count.total(3, 0, true), 100692458692345L);
        for (int stage = 0; stage <= 3; stage++) {
            for (int candidate = 0; candidate <= 5; candidate++) {
                String call = "total(" + stage + ", " + candidate + ")";
                checks.same(call, count.total(stage, candidate, false), plain.total(stage, candidate, false));
                checks.same(call, count.total(stage, candidate, true), plain.total(stage, candidate, true));
            }
        }
    }

    private void promise12Papers() {
        PreferenceCount count = sample();
        papers(count, "0 0 0 0 0");
        int[] wrong = {5, 13, -1, Integer.MAX_VALUE, Integer.MIN_VALUE};
        for (int candidate : wrong) {
            checks.refusesIndex("papers(" + candidate + ")", () -> count.papers(candidate));
        }
        count.open();
        papers(count, "6 2 3 1 0");
        count.step();
        papers(count, "0 6 4 1 1");
        for (int candidate : wrong) {
            checks.refusesIndex("papers(" + candidate + ")", () -> count.papers(candidate));
        }
        count.begin(3, 1);
        papers(count, "0 0 0 0");
        checks.refusesIndex("papers(4)", () -> count.papers(4));
    }

    private void promise13Moved() {
        PreferenceCount count = sample();
        checks.refusesIndex("moved when not begun", () -> count.moved(0, 0));
        checks.refusesIndex("moved when not begun", () -> count.moved(-1, 0));
        count.withdraw(3);
        count.lay(row(3), 2);
        count.open();
        // the paper of 3 lies with 0 at once; those for 3 alone lie with nobody
        moves(count, 0, "7 2 3 0 2");
        totals(count, 0, "7 2 3 0 2");
        checks.same("step", count.step(), 0);
        moves(count, 0, "7 2 3 0 2");
        moves(count, 1, "0 5 1 0 1");
        int[][] wrong = {{2, 0}, {13, 0}, {-1, 0}, {0, 5}, {1, -1}, {0, 13}, {Integer.MAX_VALUE, 0},
            {Integer.MIN_VALUE, 0}, {0, Integer.MAX_VALUE}, {0, Integer.MIN_VALUE}, {2, 5}};
        for (int[] pair : wrong) {
            checks.refusesIndex("moved(" + pair[0] + ", " + pair[1] + ")", () -> count.moved(pair[0], pair[1]));
        }
        // nothing of the moves before is left in a new count
        count.begin(4, 2);
        count.lay(row(0), 1);
        count.lay(row(1), 1);
        count.lay(row(2), 1);
        count.open();
        moves(count, 0, "1 1 1 0 0");
        checks.same("step", count.step(), 19);
        moves(count, 1, "0 0 0 0 0");
    }
}
