/** Compares answers with those that are due, prints the wrong ones and ends the program with 1 if there was one. */
final class Checks {
    private final String title;
    private String part = "";
    private int made;
    private int wrong;

    Checks(String title) {
        this.title = title;
    }

    /** Complaints name the part of the tests that they come from. */
    void turnTo(String name) {
        part = ", " + name;
    }

    void same(String call, long got, long due) {
        made++;
        if (got != due) {
            complain(call + " answered " + got + ", due is " + due);
        }
    }

    void same(String call, String got, String due) {
        made++;
        if (!got.equals(due)) {
            complain(call + " answered " + got + ", due is " + due);
        }
    }

    void holds(String what, boolean isSo) {
        made++;
        if (!isSo) {
            complain(what + " does not hold");
        }
    }

    void refusesState(String call, Runnable action) {
        refuses(call, IllegalStateException.class, action);
    }

    void refusesArgument(String call, Runnable action) {
        refuses(call, IllegalArgumentException.class, action);
    }

    void refusesIndex(String call, Runnable action) {
        refuses(call, IndexOutOfBoundsException.class, action);
    }

    boolean allRight() {
        return wrong == 0;
    }

    void finish() {
        System.out.println(title + ": " + made + " checks, " + wrong + " wrong");
        if (wrong != 0) {
            System.exit(1);
        }
    }

    /** The very class is due: a subclass would be one that the virtual machine threw by itself. */
    private void refuses(String call, Class<?> due, Runnable action) {
        made++;
        try {
            action.run();
        } catch (RuntimeException thrown) {
            if (thrown.getClass() != due) {
                complain(call + " threw " + thrown.getClass().getName() + ", due is " + due.getName());
            }
            return;
        }
        complain(call + " threw nothing, due is " + due.getName());
    }

    private void complain(String text) {
        wrong++;
        System.out.println(title + part + ": " + text);
    }
}
