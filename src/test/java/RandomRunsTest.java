import java.util.Random;

/** Runs of calls, right and wrong ones, made from fixed seeds, on PreferenceCount and on PlainCount side by side. */
public final class RandomRunsTest {
    private static final int RUNS = 12000;
    private static final int CALLS_OF_A_RUN = 512;

    private final Checks checks;
    private final int run;
    private final Random random;
    private final PreferenceCount count = new PreferenceCount();
    private final PlainCount plain = new PlainCount();
    private int calls;

    private RandomRunsTest(Checks checks, int run) {
        this.checks = checks;
        this.run = run;
        this.random = new Random(run);
    }

    public static void main(String[] args) {
        Checks checks = new Checks("random runs");
        int[] countsWithSurpluses = new int[4];
        for (int run = 0; run < RUNS && checks.allRight(); run++) {
            new RandomRunsTest(checks, run).play(countsWithSurpluses);
        }
        for (int surpluses = 0; surpluses < 4; surpluses++) {
            checks.holds("counts with " + surpluses + " surpluses were met", countsWithSurpluses[surpluses] > 100);
        }
        checks.finish();
    }

    private void play(int[] countsWithSurpluses) {
        ask(10);
        while (calls < CALLS_OF_A_RUN - 1) {
            int candidates = 2 + random.nextInt(11);
            begin(candidates, 1 + random.nextInt(Math.min(4, candidates - 1)));
            prepare();
            open();
            for (int stage = 0; stage < 14 && plain.mayStep(); stage++) {
                ask(12);
                step();
                disturb(15);
            }
            ask(25);
            disturb(3);
            step();
            if (plain.isOver()) {
                countsWithSurpluses[plain.surpluses()]++;
            }
        }
    }

    private void prepare() {
        for (int i = random.nextInt(6); i > 0; i--) {
            draw(random.nextInt(plain.candidates()), random.nextInt(random.nextBoolean() ? 14 : 1000));
        }
        for (int i = random.nextInt(5); i > 0; i--) {
            withdraw(random.nextInt(plain.candidates()));
        }
        // few favourites make surpluses, few papers make ties
        int favourites = 1 + random.nextInt(plain.candidates());
        int most = 1 + random.nextInt(random.nextBoolean() ? 4 : 14);
        for (int i = 1 + random.nextInt(14); i > 0; i--) {
            lay(ranking(favourites), 1 + random.nextInt(most));
            disturb(10);
        }
        ask(4);
    }

    private long ranking(int favourites) {
        int ranks = 1 + random.nextInt(Math.min(7, plain.candidates()));
        int used = 0;
        long row = 0;
        for (int rank = 0; rank < ranks; rank++) {
            int candidate;
            do {
                candidate = random.nextInt(rank == 0 ? favourites : plain.candidates());
            } while ((used & 1 << candidate) != 0);
            used |= 1 << candidate;
            row |= (candidate + 1L) << 4 * rank;
        }
        // what stands above an empty rank counts for nothing
        return ranks < 7 && random.nextInt(5) == 0 ? row | random.nextLong() << 4 * ranks + 4 : row;
    }

    /** Once in so many times a call that is likely to be refused. */
    private void disturb(int onceIn) {
        if (random.nextInt(onceIn) != 0) {
            return;
        }
        switch (random.nextInt(7)) {
            case 0:
                draw(candidateOrNot(), random.nextInt(1004) - 2);
                break;
            case 1:
                withdraw(candidateOrNot());
                break;
            case 2:
                lay(random.nextLong() >>> random.nextInt(64), random.nextInt(55) - 2);
                break;
            case 3:
                lay(ranking(plain.candidates()), random.nextBoolean() ? 51 : random.nextInt());
                break;
            case 4:
                step();
                break;
            case 5:
                if (plain.hasBegun()) {
                    open();
                }
                break;
            default:
                int candidates = random.nextInt(15);
                int seats = random.nextInt(7) - 1;
                if (!plain.mayBegin(candidates, seats)) {
                    begin(candidates, seats);
                }
                break;
        }
    }

    private int candidateOrNot() {
        return random.nextInt(20) == 0 ? random.nextInt() : random.nextInt(plain.candidates() + 3) - 1;
    }

    private int stageOrNot() {
        return random.nextInt(20) == 0 ? random.nextInt() : random.nextInt(plain.latest() + 3) - 1;
    }

    private void ask(int questions) {
        for (int i = 0; i < questions; i++) {
            int candidate = candidateOrNot();
            int stage = stageOrNot();
            switch (random.nextInt(7)) {
                case 0:
                    int what = random.nextInt(11) - 1;
                    compare("state(" + what + ")", () -> count.state(what), "" + plain.state(what));
                    break;
                case 1:
                    compare("over()", () -> count.over(), "" + plain.isOver());
                    break;
                case 2:
                    compare("status(" + candidate + ")", () -> count.status(candidate),
                            plain.isCandidate(candidate) ? "" + plain.status(candidate) : "IndexOutOfBoundsException");
                    break;
                case 3:
                    compare("papers(" + candidate + ")", () -> count.papers(candidate),
                            plain.isCandidateOrNobody(candidate) ? "" + plain.papers(candidate)
                                    : "IndexOutOfBoundsException");
                    break;
                case 4:
                    compare("moved(" + stage + ", " + candidate + ")", () -> count.moved(stage, candidate),
                            plain.isStage(stage) && plain.isCandidateOrNobody(candidate)
                                    ? "" + plain.moved(stage, candidate) : "IndexOutOfBoundsException");
                    break;
                default:
                    boolean lower = random.nextBoolean();
                    compare("total(" + stage + ", " + candidate + ", " + lower + ")",
                            () -> count.total(stage, candidate, lower),
                            plain.isStage(stage) && plain.isCandidateOrNobody(candidate)
                                    ? "" + plain.total(stage, candidate, lower) : "IndexOutOfBoundsException");
                    break;
            }
        }
    }

    private void begin(int candidates, int seats) {
        String due = "IllegalArgumentException";
        if (calls < CALLS_OF_A_RUN && plain.mayBegin(candidates, seats)) {
            plain.begin(candidates, seats);
            due = "nothing";
        }
        compare("begin(" + candidates + ", " + seats + ")", () -> {
            count.begin(candidates, seats);
            return "nothing";
        }, due);
    }

    private void draw(int candidate, int number) {
        String due = plain.hasBegun() ? "IllegalStateException" : "IllegalArgumentException";
        if (!plain.hasBegun() && calls < CALLS_OF_A_RUN && plain.mayDraw(candidate, number)) {
            plain.draw(candidate, number);
            due = "nothing";
        }
        compare("draw(" + candidate + ", " + number + ")", () -> {
            count.draw(candidate, number);
            return "nothing";
        }, due);
    }

    private void withdraw(int candidate) {
        String due = plain.hasBegun() ? "IllegalStateException" : "IllegalArgumentException";
        if (!plain.hasBegun() && calls < CALLS_OF_A_RUN && plain.mayWithdraw(candidate)) {
            plain.withdraw(candidate);
            due = "nothing";
        }
        compare("withdraw(" + candidate + ")", () -> {
            count.withdraw(candidate);
            return "nothing";
        }, due);
    }

    private void lay(long row, int papers) {
        String due = plain.hasBegun() ? "IllegalStateException" : "IllegalArgumentException";
        if (!plain.hasBegun() && calls < CALLS_OF_A_RUN && plain.mayLay(row, papers)) {
            due = "" + plain.lay(row, papers);
        }
        compare("lay(" + row + ", " + papers + ")", () -> count.lay(row, papers), due);
    }

    private void open() {
        String due = calls < CALLS_OF_A_RUN && plain.mayOpen() ? "" + plain.open() : "IllegalStateException";
        compare("open()", () -> count.open(), due);
    }

    private void step() {
        String due = calls < CALLS_OF_A_RUN && plain.mayStep() ? "" + plain.step() : "IllegalStateException";
        compare("step()", () -> count.step(), due);
    }

    private interface Call {
        Object answer();
    }

    private void compare(String text, Call call, String due) {
        if (calls == CALLS_OF_A_RUN) {
            return;
        }
        calls++;
        String got;
        try {
            got = "" + call.answer();
        } catch (RuntimeException thrown) {
            got = thrown.getClass().getSimpleName();
        }
        checks.same("run " + run + ", call " + calls + ": " + text, got, due);
    }
}
