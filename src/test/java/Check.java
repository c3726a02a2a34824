import java.util.NoSuchElementException;
import java.util.function.BiConsumer;
import java.util.function.Consumer;
import java.util.function.Function;
import java.util.function.Supplier;

/** Counts the answers of one test that are as due, and prints the others. */
final class Check {
    private final String name;
    private int right = 0;
    private int wrong = 0;

    Check(String name) {
        this.name = name;
    }

    void same(String what, long got, long due) {
        count(got == due, what + " answered " + got + ", due is " + due);
    }

    void same(String what, boolean got, boolean due) {
        count(got == due, what + " answered " + got + ", due is " + due);
    }

    void same(String what, String got, String due) {
        count(got.equals(due), what + " answered " + got + ", due is " + due);
    }

    void exact(String what, double got, double due) {
        count(got == due, what + " answered " + got + ", due is " + due);
    }

    /** The call has to throw just this exception, and has to leave the desk as another one without the call. */
    void refuses(String what, Class<?> due, Supplier<DeductionDesk> prepare, Consumer<DeductionDesk> call) {
        DeductionDesk desk = prepare.get();
        String got = "nothing";
        try {
            call.accept(desk);
        } catch (RuntimeException e) {
            got = e.getClass().getName();
        }
        count(got.equals(due.getName()), what + " throws " + got + ", due is " + due.getName());
        changesNothing(what, prepare, call);
    }

    /**
     * Sends a call with each of the numbers from the first one on, of which each due outcome has one; the outermost
     * outcomes are due for all numbers beyond, too.
     */
    void outcomes(String what, Supplier<DeductionDesk> prepare, int first, String due,
            BiConsumer<DeductionDesk, Integer> call) {
        int last = first + due.length() - 1;
        for (int number = first; number <= last; number++) {
            int sent = number;
            outcome(what + " with " + sent, due.charAt(sent - first), prepare, x -> call.accept(x, sent));
        }
        for (int below : new int[] {Integer.MIN_VALUE, Integer.MIN_VALUE + 1, -60, -2}) {
            outcome(what + " with " + below, due.charAt(0), prepare, x -> call.accept(x, below));
        }
        for (int above : new int[] {last + 1, 151, 1 << 27, Integer.MAX_VALUE}) {
            outcome(what + " with " + above, due.charAt(due.length() - 1), prepare, x -> call.accept(x, above));
        }
    }

    /** The call has to answer if '.' is due, else to throw the exception of this letter and to change nothing. */
    void outcome(String what, char due, Supplier<DeductionDesk> prepare, Consumer<DeductionDesk> call) {
        char got = outcomeOf(prepare.get(), call);
        count(got == due, what + " has the outcome " + got + ", due is " + due);
        if (got != '.') {
            changesNothing(what, prepare, call);
        }
    }

    /** In the workshop, the call has to be done as the 60th line, and to be refused as the 61st. */
    void sixty(String what, Consumer<DeductionDesk> call) {
        DeductionDesk desk = Desks.fillLinesTo(Desks.workshop(), 0, 59);
        same(what + " as the 60th line", outcomeOf(desk, call), '.');
        same(what + ", lines", desk.lines(), 60);
        outcome(what + " as the 61st line", 'S', () -> Desks.fillLines(Desks.workshop(), 0), call);
    }

    static char outcomeOf(DeductionDesk desk, Consumer<DeductionDesk> call) {
        try {
            call.accept(desk);
        } catch (RuntimeException e) {
            Class<?> type = e.getClass();
            return type == IllegalArgumentException.class ? 'A' : type == IndexOutOfBoundsException.class ? 'I'
                    : type == NoSuchElementException.class ? 'N' : type == UnsupportedOperationException.class ? 'U'
                    : type == IllegalStateException.class ? 'S' : type == ArithmeticException.class ? 'M' : '?';
        }
        return '.';
    }

    private void changesNothing(String what, Supplier<DeductionDesk> prepare, Consumer<DeductionDesk> call) {
        for (Function<DeductionDesk, String> view : Desks.viewsOf(prepare.get())) {
            DeductionDesk desk = prepare.get();
            outcomeOf(desk, call);
            same(what + " and changes nothing", view.apply(desk), view.apply(prepare.get()));
        }
    }

    int answers() {
        return right + wrong;
    }

    void wrong(String what) {
        count(false, what);
    }

    void end() {
        System.out.println(name + ": " + right + " right, " + wrong + " wrong");
        if (wrong != 0 || right == 0) {
            System.exit(1);
        }
    }

    private void count(boolean isRight, String what) {
        if (isRight) {
            right++;
        } else {
            wrong++;
            System.out.println(name + ": " + what);
        }
    }
}
