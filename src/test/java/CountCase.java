import java.lang.reflect.InvocationTargetException;
import java.lang.reflect.Method;
import java.lang.reflect.Modifier;
import java.util.Map;
import java.util.TreeMap;
import java.util.function.Consumer;
import java.util.function.IntFunction;
import java.util.function.Supplier;

/** What tests of counts share: rows, short tellings of all that can be asked, and calls that must change nothing. */
abstract class CountCase {
    final Checks checks;

    CountCase(String title) {
        checks = new Checks(title);
    }

    /** Every method that asks for nothing is a test, so that none can be left out of a list. */
    final void runAll() {
        Map<String, Method> tests = new TreeMap<>();
        for (Method method : getClass().getDeclaredMethods()) {
            boolean asksForNothing = method.getParameterCount() == 0;
            if (asksForNothing && !Modifier.isStatic(method.getModifiers()) && !method.isSynthetic()) {
                tests.put(method.getName(), method);
            }
        }
        for (Method test : tests.values()) {
            checks.turnTo(test.getName());
            run(test);
        }
        checks.turnTo("in all");
        checks.holds("there are tests", !tests.isEmpty());
        checks.finish();
    }

    private void run(Method test) {
        test.setAccessible(true);
        try {
            test.invoke(this);
        } catch (InvocationTargetException thrown) {
            checks.holds("what is due without " + thrown.getCause(), false);
        } catch (IllegalAccessException thrown) {
            throw new IllegalStateException(thrown);
        }
    }

    static long row(int... candidates) {
        long row = 0;
        for (int rank = 0; rank < candidates.length; rank++) {
            row |= (candidates[rank] + 1L) << 4 * rank;
        }
        return row;
    }

    static PreferenceCount begun(int candidates, int seats) {
        PreferenceCount count = new PreferenceCount();
        count.begin(candidates, seats);
        return count;
    }

    final void totals(PreferenceCount count, int stage, String due) {
        checks.same("the totals of stage " + stage, totalsOf(count, stage), due);
    }

    final void moves(PreferenceCount count, int stage, String due) {
        checks.same("the moves of stage " + stage, movesOf(count, stage), due);
    }

    final void papers(PreferenceCount count, String due) {
        checks.same("the papers", papersOf(count), due);
    }

    final void statuses(PreferenceCount count, String due) {
        checks.same("the statuses", statusesOf(count), due);
    }

    final void states(PreferenceCount count, String due) {
        checks.same("the states", statesOf(count), due);
    }

    final void over(PreferenceCount count, boolean due) {
        checks.same("over()", "" + count.over(), "" + due);
    }

    /** Steps to the end, and compares the answers. */
    final void steps(PreferenceCount count, String due) {
        checks.same("the steps", stepsOf(count), due);
    }

    final void refusesState(String call, Supplier<PreferenceCount> made, Consumer<PreferenceCount> action) {
        PreferenceCount count = made.get();
        checks.refusesState(call, () -> action.accept(count));
        checkNothingWasDone(call, count, made.get());
    }

    final void refusesArgument(String call, Supplier<PreferenceCount> made, Consumer<PreferenceCount> action) {
        PreferenceCount count = made.get();
        checks.refusesArgument(call, () -> action.accept(count));
        checkNothingWasDone(call, count, made.get());
    }

    /** A twin that had no such call tells what would have been: now, and in all that comes. */
    private void checkNothingWasDone(String call, PreferenceCount count, PreferenceCount twin) {
        checks.same("all that can be asked behind " + call, everythingOf(count), everythingOf(twin));
        checks.same("what comes behind " + call, restOf(count), restOf(twin));
    }

    private static String everythingOf(PreferenceCount count) {
        StringBuilder text = new StringBuilder();
        text.append("states ").append(statesOf(count)).append(", over ").append(count.over());
        text.append(", statuses ").append(statusesOf(count)).append(", papers ").append(papersOf(count));
        for (int stage = 0; stage <= count.state(4); stage++) {
            text.append(", stage ").append(stage).append(": ").append(totalsOf(count, stage));
            text.append(", moves ").append(movesOf(count, stage));
        }
        return text.toString();
    }

    /** A count that is not begun gets a paper for each candidate before, so that their draws can be seen. */
    private static String restOf(PreferenceCount count) {
        StringBuilder text = new StringBuilder();
        if (count.state(4) == -1) {
            for (int candidate = 0; candidate < count.state(0) && count.state(2) < 50; candidate++) {
                text.append(count.lay(row(candidate), 1)).append(' ');
            }
            text.append(count.open()).append(' ');
        }
        return text.append(stepsOf(count)).append(", ").append(everythingOf(count)).toString();
    }

    private static String stepsOf(PreferenceCount count) {
        StringBuilder text = new StringBuilder();
        for (int stage = 0; stage < 20 && !count.over(); stage++) {
            text.append(stage == 0 ? "" : " ").append(count.step());
        }
        return text.toString();
    }

    private static String totalsOf(PreferenceCount count, int stage) {
        return inARow(count.state(0) + 1, candidate -> {
            long lower = count.total(stage, candidate, true);
            return count.total(stage, candidate, false) + (lower == 1 ? "" : "/" + lower);
        });
    }

    private static String movesOf(PreferenceCount count, int stage) {
        return inARow(count.state(0) + 1, candidate -> "" + count.moved(stage, candidate));
    }

    private static String papersOf(PreferenceCount count) {
        return inARow(count.state(0) + 1, candidate -> "" + count.papers(candidate));
    }

    private static String statusesOf(PreferenceCount count) {
        return inARow(count.state(0), candidate -> "" + count.status(candidate));
    }

    private static String statesOf(PreferenceCount count) {
        return inARow(8, what -> "" + count.state(what));
    }

    private static String inARow(int size, IntFunction<String> told) {
        StringBuilder text = new StringBuilder();
        for (int i = 0; i < size; i++) {
            text.append(i == 0 ? "" : " ").append(told.apply(i));
        }
        return text.toString();
    }
}
