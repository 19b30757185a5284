/** The boundary cases that the document names under 'Terms', a test for each sentence; all was reckoned by hand. */
public final class TermsBoundariesTest extends CountCase {
    private TermsBoundariesTest() {
        super("boundaries of the terms");
    }

    public static void main(String[] args) {
        new TermsBoundariesTest().runAll();
    }

    /** "There are CANDIDATES 0 .. n - 1" */
    private void candidatesAreNumberedFrom0ToOneLess() {
        for (int candidates = 2; candidates <= 12; candidates++) {
            PreferenceCount count = begun(candidates, 1);
            int behindTheLast = candidates;
            checks.same("status of the first", count.status(0), 0);
            checks.same("status of the last", count.status(behindTheLast - 1), 0);
            checks.refusesIndex("status behind the last", () -> count.status(behindTheLast));
            checks.refusesIndex("status before the first", () -> count.status(-1));
            checks.same("a paper for the last", count.lay(row(behindTheLast - 1), 1), 1);
            checks.refusesArgument("one behind the last", () -> count.lay(row(behindTheLast), 1));
        }
    }

    /** "Each candidate has a DRAW, at first its number." */
    private void drawIsAtFirstTheNumber() {
        PreferenceCount count = begun(12, 1);
        checks.refusesArgument("the draw of the last", () -> count.draw(0, 11));
        checks.refusesArgument("the draw of the first", () -> count.draw(11, 0));
        for (int candidate = 0; candidate < 12; candidate++) {
            count.lay(row(candidate), 1);
        }
        count.open();
        steps(count, "27 26 25 24 23 22 21 20 19 18 17");
        checks.same("the least draw stays", count.status(0), 1);
    }

    /** "A PAPER ranks some candidates, each once: 1 to 7 of them." */
    private void paperRanksOneToSeven() {
        PreferenceCount count = begun(12, 1);
        checks.refusesArgument("none", () -> count.lay(row(), 1));
        checks.same("one", count.lay(row(0), 1), 1);
        checks.same("seven", count.lay(row(0, 1, 2, 3, 4, 5, 6), 1), 2);
        checks.refusesArgument("eight", () -> count.lay(row(0, 1, 2, 3, 4, 5, 6, 7), 1));
        checks.refusesArgument("one twice", () -> count.lay(row(0, 1, 2, 3, 4, 5, 0), 1));
        checks.same("state(2)", count.state(2), 2);
    }

    /** "There are at most 50 papers." */
    private void papersAreAtMostFifty() {
        PreferenceCount count = begun(3, 1);
        checks.same("49", count.lay(row(0), 49), 49);
        checks.refusesArgument("51", () -> count.lay(row(1), 2));
        checks.same("50", count.lay(row(1), 1), 50);
        checks.refusesArgument("51", () -> count.lay(row(2), 1));
        checks.same("open", count.open(), 25);
        totals(count, 0, "49 1 0 0");
    }

    /** "The QUOTA is the fraction papers / (seats + 1).", from 1 / 5 to 50 / 2 */
    private void quotaIsPapersThroughSeatsAndOne() {
        for (int papers = 1; papers <= 50; papers++) {
            for (int seats = 1; seats <= 4; seats++) {
                PreferenceCount count = begun(5, seats);
                count.lay(row(0), papers);
                int upper = count.open();
                int lower = count.state(3);
                String quota = papers + " / " + (seats + 1);
                checks.same(quota + " is of the same worth", upper * (seats + 1), papers * lower);
                checks.same(quota + " has lowest terms", commonDivisor(upper, lower), 1);
                checks.holds(quota + " is above 0", upper > 0 && lower > 0);
            }
        }
    }

    private static int commonDivisor(int one, int other) {
        return other == 0 ? one : commonDivisor(other, one % other);
    }

    /** "EXCLUDED (also one that was withdrawn before)": it gets no paper, and no later stage is its own. */
    private void withdrawnOneIsExcluded() {
        PreferenceCount count = begun(4, 1);
        count.withdraw(0);
        statuses(count, "-1 0 0 0");
        count.lay(row(0, 1), 4);
        count.lay(row(2, 0, 1), 2);
        count.lay(row(3, 0), 3);
        checks.same("open", count.open(), 9);
        totals(count, 0, "0 4 2 3 0");
        steps(count, "18");
        totals(count, 1, "0 6 0 3 0");
        moves(count, 1, "0 2 0 0 0");
        statuses(count, "-1 1 -2 0");
    }

    /** "has a VALUE, at first 1" */
    private void valueIsAtFirstOne() {
        PreferenceCount count = begun(3, 2);
        count.lay(row(0), 1);
        count.lay(row(1), 49);
        count.open();
        totals(count, 0, "1 49 0 0");
    }

    /** "STAGE 0: each paper lies with the first candidate on it who is CONTINUING", be it the seventh */
    private void firstContinuingOneMayStandLast() {
        PreferenceCount count = begun(8, 1);
        for (int candidate = 0; candidate < 6; candidate++) {
            count.withdraw(candidate);
        }
        count.lay(row(5, 4, 3, 2, 1, 0, 7), 3);
        count.lay(row(6, 5, 4, 3, 2, 1, 0), 2);
        count.open();
        totals(count, 0, "0 0 0 0 0 0 2 3 0");
        papers(count, "0 0 0 0 0 0 2 3 0");
    }

    /** "if there is none, it is EXHAUSTED", at stage 0: one paper, or all of them, so that everybody has 0 */
    private void paperWithoutContinuingOneIsExhausted() {
        PreferenceCount one = begun(4, 1);
        one.withdraw(3);
        one.lay(row(3), 1);
        one.lay(row(0, 3), 1);
        checks.same("open", one.open(), 1);
        totals(one, 0, "1 0 0 0 1");
        moves(one, 0, "1 0 0 0 1");
        papers(one, "1 0 0 0 1");

        PreferenceCount all = begun(4, 1);
        all.withdraw(3);
        all.withdraw(2);
        all.lay(row(2, 3), 50);
        checks.same("open", all.open(), 25);
        totals(all, 0, "0 0 0 0 50");
        steps(all, "17");
        totals(all, 1, "0 0 0 0 50");
        moves(all, 1, "0 0 0 0 0");
        statuses(all, "1 -3 -2 -1");
    }

    /** "whose total is above the quota": the quota itself is not above it */
    private void quotaItselfIsNotAboveIt() {
        PreferenceCount just = begun(3, 1);
        just.lay(row(0), 4);
        just.lay(row(1), 3);
        just.lay(row(2), 1);
        checks.same("open", just.open(), 4);
        statuses(just, "0 0 0");
        checks.same("step: no surplus, but an exclusion", just.step(), 18);

        PreferenceCount above = begun(3, 1);
        above.lay(row(0), 5);
        above.lay(row(1), 3);
        above.lay(row(2), 1);
        checks.same("open", above.open(), 9);
        statuses(above, "1 0 0");
        over(above, true);

        // 16 is less than 50 / 3, and 17 more
        PreferenceCount between = begun(4, 2);
        between.lay(row(0), 17);
        between.lay(row(1), 16);
        between.lay(row(2), 16);
        between.lay(row(3), 1);
        checks.same("open", between.open(), 50);
        statuses(between, "1 0 0 0");
    }

    /** Likewise where all have just the quota: nobody is elected before one has gone. */
    private void allHaveJustTheQuota() {
        PreferenceCount count = begun(5, 4);
        for (int candidate = 0; candidate < 5; candidate++) {
            count.lay(row(candidate), 10);
        }
        checks.same("open", count.open(), 10);
        statuses(count, "0 0 0 0 0");
        steps(count, "20");
        statuses(count, "1 2 3 4 -1");
        totals(count, 1, "10 10 10 10 0 10");
    }

    /** Likewise where thirds come to the quota: in exact fractions they are not above it. */
    private void fractionsThatComeToTheQuota() {
        PreferenceCount count = begun(4, 2);
        count.lay(row(0, 1), 3);
        count.lay(row(0), 3);
        count.lay(row(1), 3);
        count.lay(row(2), 2);
        count.lay(row(3), 1);
        checks.same("open", count.open(), 4);
        checks.same("step", count.step(), 0);
        totals(count, 1, "4 4 2 1 1");
        statuses(count, "1 0 0 0");
        steps(count, "19 18");
        totals(count, 3, "4 4 0 0 4");
        statuses(count, "1 2 -2 -1");
    }

    /** "Each later stage is the first of these that can be": no exclusion while there is a surplus */
    private void surplusesComeBeforeExclusions() {
        PreferenceCount count = begun(6, 4);
        count.lay(row(0), 5);
        count.lay(row(1), 4);
        count.lay(row(2), 3);
        count.lay(row(3), 1);
        count.lay(row(4), 1);
        checks.same("open", count.open(), 14);
        statuses(count, "1 2 3 0 0 0");
        steps(count, "0 1 2 21 20");
        totals(count, 3, "14/5 14/5 14/5 1 1 0 18/5");
        statuses(count, "1 2 3 4 -2 -1");
    }

    /** "the one with the greatest total": whatever its draw, and though it was elected later */
    private void greatestSurplusComesFirst() {
        PreferenceCount count = begun(4, 3);
        count.lay(row(0), 5);
        count.lay(row(3, 1), 6);
        count.lay(row(1), 2);
        count.lay(row(2), 2);
        checks.same("open", count.open(), 15);
        checks.same("step: 6 before 5", count.step(), 3);
        totals(count, 1, "5 17/4 2 15/4 0");
        statuses(count, "2 3 0 1");
        over(count, true);

        PreferenceCount later = begun(5, 4);
        later.lay(row(0, 1), 12);
        later.lay(row(1), 3);
        later.lay(row(2), 7);
        later.lay(row(3), 4);
        later.lay(row(4), 4);
        checks.same("open", later.open(), 6);
        statuses(later, "1 0 2 0 0");
        steps(later, "0 1 2 20");
        totals(later, 1, "6 9 7 4 4 0");
        totals(later, 2, "6 6 7 4 4 3");
        totals(later, 3, "6 6 6 4 4 4");
        statuses(later, "1 3 2 4 -1");
    }

    /** "each with its value times (total less quota) / total", where that is as little as 1 / 51 */
    private void surplusMayBeSmall() {
        PreferenceCount count = begun(4, 2);
        count.lay(row(0, 1), 16);
        count.lay(row(0), 1);
        count.lay(row(1), 1);
        count.lay(row(2), 16);
        count.lay(row(3), 16);
        checks.same("open", count.open(), 50);
        checks.same("step", count.step(), 0);
        totals(count, 1, "50/3 67/51 16 16 1/51");
        checks.same("step", count.step(), 17);
        totals(count, 2, "50/3 0 16 16 4/3");
        checks.same("step", count.step(), 19);
        totals(count, 3, "50/3 0 16 0 52/3");
        statuses(count, "1 -1 2 -2");
    }

    /** Likewise where all 50 papers lie with one: four fifths of each go on, and of that three quarters, and so on. */
    private void surplusMayBeOfAllPapers() {
        PreferenceCount count = begun(5, 4);
        count.lay(row(0, 1, 2, 3), 50);
        checks.same("open", count.open(), 10);
        steps(count, "0 1 2");
        totals(count, 0, "50 0 0 0 0 0");
        totals(count, 1, "10 40 0 0 0 0");
        totals(count, 2, "10 10 30 0 0 0");
        totals(count, 3, "10 10 10 20 0 0");
        moves(count, 3, "0 0 0 50 0 0");
        papers(count, "0 0 0 50 0 0");
        statuses(count, "1 2 3 4 0");
    }

    /** "all papers that lie there go on ..; the quota is kept there": to the end, with no paper */
    private void quotaIsKeptToTheEnd() {
        PreferenceCount count = begun(5, 2);
        count.lay(row(0, 1), 7);
        count.lay(row(1, 0), 2);
        count.lay(row(2, 0), 3);
        count.lay(row(3, 0, 2), 1);
        count.lay(row(4, 0, 3), 1);
        checks.same("open", count.open(), 14);
        checks.same("step", count.step(), 0);
        totals(count, 1, "14/3 13/3 3 1 1 0");
        papers(count, "0 9 3 1 1 0");
        steps(count, "20 19 18");
        totals(count, 2, "14/3 13/3 3 2 0 0");
        totals(count, 3, "14/3 13/3 4 0 0 1");
        totals(count, 4, "14/3 13/3 0 0 0 5");
        papers(count, "0 9 0 0 0 5");
        statuses(count, "1 2 -3 -2 -1");
    }

    /** "the CONTINUING one with the least total is EXCLUDED", also one with no paper at all */
    private void oneWithNothingIsExcluded() {
        PreferenceCount count = begun(3, 1);
        count.lay(row(0), 1);
        count.lay(row(2), 1);
        checks.same("open", count.open(), 1);
        checks.same("step", count.step(), 17);
        totals(count, 1, "1 0 1 0");
        moves(count, 1, "0 0 0 0");
        steps(count, "18");
        totals(count, 2, "1 0 0 1");
    }

    /** "all papers that lie there go on with their values": those of a surplus before do not become whole again */
    private void excludedOnesPapersKeepTheirValues() {
        PreferenceCount count = begun(5, 2);
        count.lay(row(0, 4, 1), 8);
        count.lay(row(1), 5);
        count.lay(row(2), 5);
        count.lay(row(3), 3);
        checks.same("open", count.open(), 7);
        checks.same("step: an eighth of each", count.step(), 0);
        totals(count, 1, "7 5 5 3 1 0");
        checks.same("step", count.step(), 20);
        totals(count, 2, "7 6 5 3 0 0");
        moves(count, 2, "0 8 0 0 0 0");
        steps(count, "19 18");
        totals(count, 4, "7 6 0 0 0 8");
    }

    /** "A paper GOES ON to the first candidate behind this one on it who is CONTINUING": over all others between */
    private void goingOnPassesOverElectedAndExcludedOnes() {
        PreferenceCount count = begun(8, 2);
        count.withdraw(7);
        count.lay(row(1, 7, 0, 2, 3), 2);
        count.lay(row(0), 8);
        count.lay(row(3), 6);
        count.lay(row(4), 4);
        count.lay(row(5), 1);
        count.lay(row(6), 3);
        checks.same("open", count.open(), 8);
        checks.same("step: 0 has just the quota, 2 nothing", count.step(), 18);
        checks.same("step", count.step(), 21);
        checks.same("step", count.step(), 17);
        moves(count, 3, "2 0 0 0 0 0 0 0 0");
        totals(count, 3, "10 0 0 6 4 0 3 0 1");
        checks.same("step: a fifth of each", count.step(), 0);
        moves(count, 4, "0 0 0 2 0 0 0 0 8");
        totals(count, 4, "8 0 0 32/5 4 0 3 0 13/5");
        steps(count, "22 20");
        statuses(count, "1 -4 -2 2 -6 -3 -5 -1");
    }

    /** "if there is none, it is EXHAUSTED", of one that goes on: behind its last rank, the seventh, too */
    private void goingOnBehindTheLastRankExhausts() {
        PreferenceCount count = begun(9, 1);
        for (int candidate = 0; candidate < 6; candidate++) {
            count.withdraw(candidate);
        }
        count.lay(row(0, 1, 2, 3, 4, 5, 6), 2);
        count.lay(row(7), 3);
        count.lay(row(8), 3);
        checks.same("open", count.open(), 4);
        checks.same("step", count.step(), 22);
        moves(count, 1, "0 0 0 0 0 0 0 0 0 2");
        totals(count, 1, "0 0 0 0 0 0 0 3 3 2");

        // 8 ranks cannot be laid, so what stands above the seventh never counts
        PreferenceCount above = begun(3, 1);
        above.lay(0x201L, 1);
        above.lay(row(1, 2), 2);
        above.lay(row(2, 1), 2);
        checks.same("open", above.open(), 5);
        checks.same("step", above.step(), 16);
        totals(above, 1, "0 2 2 1");
    }

    /** Exhausted papers stay with nobody, whatever comes. */
    private void exhaustedPapersStay() {
        PreferenceCount count = begun(5, 2);
        count.withdraw(4);
        count.lay(row(4), 3);
        count.lay(row(0), 5);
        count.lay(row(1), 2);
        count.lay(row(2), 1);
        count.lay(row(3), 1);
        checks.same("open", count.open(), 4);
        steps(count, "0 19 18");
        totals(count, 0, "5 2 1 1 0 3");
        totals(count, 1, "4 2 1 1 0 4");
        totals(count, 2, "4 2 1 0 0 5");
        totals(count, 3, "4 2 0 0 0 6");
        papers(count, "0 2 0 0 0 10");
    }

    /** "Behind each stage (0, too): CONTINUING ones whose totals are above the quota become ELECTED" */
    private void electedBehindStage0AndEachLaterKind() {
        PreferenceCount count = begun(6, 4);
        count.lay(row(0, 1), 14);
        count.lay(row(1), 7);
        count.lay(row(2), 9);
        count.lay(row(3, 2), 6);
        count.lay(row(4), 7);
        count.lay(row(5), 7);
        checks.same("open", count.open(), 10);
        statuses(count, "1 0 0 0 0 0");
        checks.same("step", count.step(), 0);
        totals(count, 1, "10 11 9 6 7 7 0");
        statuses(count, "1 2 0 0 0 0");
        checks.same("step", count.step(), 1);
        totals(count, 2, "10 10 9 6 7 7 1");
        checks.same("step", count.step(), 19);
        totals(count, 3, "10 10 15 0 7 7 1");
        statuses(count, "1 2 3 -1 0 0");
        steps(count, "2 21");
        statuses(count, "1 2 3 -1 4 -2");
    }

    /** "become ELECTED, the greatest total first", where all seats are filled at once */
    private void greatestTotalIsElectedFirst() {
        PreferenceCount count = begun(5, 4);
        count.lay(row(0), 11);
        count.lay(row(1), 13);
        count.lay(row(2), 12);
        count.lay(row(3), 14);
        checks.same("open", count.open(), 10);
        statuses(count, "4 2 3 1 0");
        over(count, true);
    }

    /** "If as many are elected as there are seats, the count is OVER.": others continue, a surplus stays */
    private void overWhenTheSeatsAreFilled() {
        PreferenceCount count = begun(4, 1);
        count.lay(row(3, 0), 50);
        checks.same("open", count.open(), 25);
        over(count, true);
        states(count, "4 1 50 1 0 1 0 3");
        statuses(count, "0 0 0 1");
        totals(count, 0, "0 0 0 50 0");
        checks.refusesState("step(), though there is a surplus", () -> count.step());
    }

    /**
     * "If as many are elected or continuing as there are seats, or fewer, the continuing ones become ELECTED, the
     * greatest total first, and it is OVER." (Fewer there cannot be: withdrawals leave one more than seats, and
     * exclusions go one by one.)
     */
    private void overWhenNobodyIsSpare() {
        PreferenceCount count = begun(6, 4);
        count.withdraw(0);
        count.lay(row(0), 40);
        count.lay(row(1), 1);
        count.lay(row(2), 3);
        count.lay(row(3), 2);
        count.lay(row(5), 4);
        checks.same("open", count.open(), 10);
        states(count, "6 4 50 1 0 0 1 5");
        over(count, false);
        checks.same("step: five for four seats", count.step(), 20);
        statuses(count, "-1 4 2 3 -2 1");
        states(count, "6 4 50 1 1 4 2 0");
        over(count, true);
    }

    /** Likewise where one of them has nothing. */
    private void oneWithNothingMayBeElected() {
        PreferenceCount count = begun(3, 2);
        count.lay(row(2), 1);
        checks.same("open", count.open(), 1);
        statuses(count, "0 0 1");
        steps(count, "2 17");
        totals(count, 2, "0 0 1/3 2/3");
        statuses(count, "2 -1 1");
    }

    /** 0 leads at stage 0, then 1 at stage 1, and both have 8 at stage 2; of 46 papers 30 are for nobody. */
    private static PreferenceCount raceOf(int seats) {
        PreferenceCount count = begun(5, seats);
        count.withdraw(4);
        count.lay(row(0), 6);
        count.lay(row(1), 5);
        count.lay(row(2, 1), 2);
        count.lay(row(3, 0), 2);
        count.lay(row(3, 1), 1);
        count.lay(row(4), 30);
        return count;
    }

    /** "the one stands ahead that had the greater total at the latest earlier stage where they differ": elected */
    private void latestEarlierStageDecidesAmongElected() {
        PreferenceCount count = raceOf(2);
        checks.same("open", count.open(), 46);
        steps(count, "18 19");
        totals(count, 0, "6 5 2 3 0 30");
        totals(count, 1, "6 7 0 3 0 30");
        totals(count, 2, "8 8 0 0 0 30");
        statuses(count, "2 1 -2 -3 -1");
    }

    /** "for an EXCLUSION the last one" of those that the latest earlier stage tells apart */
    private void latestEarlierStageDecidesAmongExcluded() {
        PreferenceCount count = raceOf(1);
        checks.same("open", count.open(), 23);
        steps(count, "18 19 16");
        statuses(count, "-4 1 -2 -3 -1");
    }

    /** "For a SURPLUS .. the first one ahead is taken": both have 8, 1 had more at stage 0 */
    private void earlierStageDecidesAmongSurpluses() {
        PreferenceCount count = begun(5, 3);
        count.lay(row(0, 4), 5);
        count.lay(row(1, 3), 6);
        count.lay(row(2, 0), 3);
        count.lay(row(2, 1), 2);
        count.lay(row(3), 6);
        count.lay(row(4), 6);
        checks.same("open", count.open(), 7);
        checks.same("step", count.step(), 18);
        totals(count, 1, "8 8 0 6 6 0");
        statuses(count, "2 1 -1 0 0");
        steps(count, "1 0 20");
        totals(count, 2, "8 7 0 27/4 6 1/4");
        totals(count, 3, "7 7 0 27/4 53/8 5/8");
        totals(count, 4, "7 7 0 27/4 0 29/4");
        statuses(count, "2 1 -1 3 -2");
    }

    /** "if there is none, the one with the lesser DRAW", for all three, with the least and the greatest draw */
    private void drawDecidesWhereNoStageDoes() {
        PreferenceCount count = begun(6, 3);
        count.draw(0, 999);
        count.draw(1, 0);
        count.draw(2, 998);
        count.lay(row(0), 5);
        count.lay(row(1), 5);
        count.lay(row(2), 2);
        count.lay(row(3), 2);
        count.lay(row(4), 2);
        checks.same("open", count.open(), 4);
        statuses(count, "2 1 0 0 0 0");
        steps(count, "1 0 21 18 20");
        statuses(count, "2 1 -2 3 -3 -1");
    }

    /** A stage where they differ goes before the draw. */
    private void drawDoesNotDecideWhereAStageDoes() {
        PreferenceCount count = begun(3, 1);
        count.draw(0, 999);
        count.lay(row(0), 3);
        count.lay(row(1), 2);
        count.lay(row(2, 1), 1);
        checks.same("open", count.open(), 3);
        steps(count, "18 17");
        totals(count, 1, "3 3 0 0");
        statuses(count, "1 -2 -1");
    }
}
