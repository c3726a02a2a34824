import java.util.NoSuchElementException;
import java.util.function.BiConsumer;
import java.util.function.Consumer;
import java.util.function.Function;
import java.util.function.Supplier;

/** Counts the answers of one test that are as due, and prints the others. */
final class Check {
    private final String name;
    private int right = 0;
    private int wrong = 0;
    private String context = "";

    Check(String name) {
        this.name = name;
    }

    void same(String what, long got, long due) {
        count(got == due, what + " answered " + got + ", due is " + due);
    }

    void same(String what, boolean got, boolean due) {
        count(got == due, what + " answered " + got + ", due is " + due);
    }

    void same(String what, String got, String due) {
        count(got.equals(due), what + " answered " + got + ", due is " + due);
    }

    void exact(String what, double got, double due) {
        count(got == due, what + " answered " + got + ", due is " + due);
    }

    /** The call has to throw just this exception, and has to leave the desk as another one without the call. */
    void refuses(String what, Class<?> due, Supplier<DeductionDesk> prepare, Consumer<DeductionDesk> call) {
        DeductionDesk desk = prepare.get();
        String got = "nothing";
        try {
            call.accept(desk);
        } catch (RuntimeException e) {
            got = e.getClass().getName();
        }
        count(got.equals(due.getName()), what + " throws " + got + ", due is " + due.getName());
        changesNothing(what, prepare, call);
    }

    /**
     * Sends a call with each of the numbers from the first one on, of which each due outcome has one; the outermost
     * outcomes are due for all numbers beyond, too.
     */
    void outcomes(String what, Supplier<DeductionDesk> prepare, int first, String due,
            BiConsumer<DeductionDesk, Integer> call) {
        int last = first + due.length() - 1;
        for (int number = first; number <= last; number++) {
            int sent = number;
            outcome(what + " with " + sent, due.charAt(sent - first), prepare, x -> call.accept(x, sent));
        }
        for (int below : new int[] {Integer.MIN_VALUE, Integer.MIN_VALUE + 1, -60, -2}) {
            outcome(what + " with " + below, due.charAt(0), prepare, x -> call.accept(x, below));
        }
        // 30 times 143165577 is 14, if what is beyond an int is lost.
        for (int above : new int[] {last + 1, 151, 143165577, Integer.MAX_VALUE}) {
            outcome(what + " with " + above, due.charAt(due.length() - 1), prepare, x -> call.accept(x, above));
        }
    }

    /** The call has to answer if '.' is due, else to throw the exception of this letter and to change nothing. */
    void outcome(String what, char due, Supplier<DeductionDesk> prepare, Consumer<DeductionDesk> call) {
        char got = outcomeOf(prepare.get(), call);
        count(got == due, what + " has the outcome " + got + ", due is " + due);
        if (got != '.') {
            changesNothing(what, prepare, call);
        }
    }

    /** In the workshop, the call has to be done as the 60th line, and to be refused as the 61st. */
    void sixty(Consumer<DeductionDesk> call) {
        DeductionDesk desk = Desks.fillLinesTo(Desks.workshop(), 0, 59);
        same("the 60th line", outcomeOf(desk, call), '.');
        same("60 lines", desk.lines(), 60);
        outcome("the 61st line", 'S', () -> Desks.fillLines(Desks.workshop(), 0), call);
    }

    /** The call has to return the number of the line that it enters: 13 in the workshop, and 59 as the last one. */
    void newLine(Function<DeductionDesk, Integer> call) {
        same("the line in the workshop", call.apply(Desks.workshop()), 13);
        same("the last line", call.apply(Desks.fillLinesTo(Desks.workshop(), 0, 59)), 59);
    }

    /** The call has to enter a line with this formula, and to return its number. */
    void enters(String due, Supplier<DeductionDesk> prepare, Function<DeductionDesk, Integer> call) {
        DeductionDesk desk = prepare.get();
        int lines = desk.lines();
        same("the number of the line with " + due, call.apply(desk), lines);
        same("the formula", Desks.shown(desk, lines), due);
        same("lines", desk.lines(), lines + 1);
    }

    /** Lines 2 to 5 of the nested desk cannot be cited, and lines 6 to 8 only as long as their boxes are open. */
    void notCited(Supplier<DeductionDesk> nested, String due, BiConsumer<DeductionDesk, Integer> call) {
        outcomes("a line with some boxes open", nested, -1, due, call);
        outcomes("a line with all boxes closed", () -> {
            DeductionDesk x = nested.get();
            x.closeBox();
            x.closeBox();
            return x;
        }, -1, due.substring(0, 7) + "NNNI", call);
        String last = due.replace('.', 'S').substring(0, 10);
        outcomes("a line among 60", () -> Desks.fillLines(nested.get(), 6), -1,
                last + last.substring(7, 8).repeat(51) + "I", call);
    }

    /** The call has to be done with just enough room for its new formulas, and where these are known, only. */
    void room(int due, Supplier<DeductionDesk> prepare, Consumer<DeductionDesk> call) {
        DeductionDesk desk = Desks.fillWith(prepare.get(), 4, 150 - due);
        same("formulas before", desk.formulas(), 150 - due);
        same("just enough room", outcomeOf(desk, call), '.');
        same("formulas behind", desk.formulas(), 150);
        outcome("room for one less", 'S', () -> Desks.fillWith(prepare.get(), 4, 151 - due), call);
        outcome("no room", 'S', () -> Desks.fillWith(prepare.get(), 4, 150), call);
        outcome("known among 150", '.', () -> {
            DeductionDesk x = prepare.get();
            call.accept(x);
            return Desks.fillWith(x, 4, 150);
        }, call);
    }

    /** Both calls have to answer this distance, or to refuse if it is -1. */
    void distance(String what, Supplier<DeductionDesk> prepare, String goal, int due) {
        DeductionDesk desk = prepare.get();
        int formula = Desks.make(desk, goal);
        if (due >= 0) {
            same(what + ", the distance of " + goal, desk.distance(formula), due);
            same(what + ", the same distance of " + goal, desk.distanceByRounds(formula), due);
        } else {
            Supplier<DeductionDesk> known = () -> {
                DeductionDesk x = prepare.get();
                Desks.make(x, goal);
                return x;
            };
            outcome(what + ", the distance of " + goal, 'N', known, x -> x.distance(formula));
            outcome(what + ", the same distance of " + goal, 'N', known, x -> x.distanceByRounds(formula));
        }
    }

    static char outcomeOf(DeductionDesk desk, Consumer<DeductionDesk> call) {
        try {
            call.accept(desk);
        } catch (RuntimeException e) {
            Class<?> type = e.getClass();
            return type == IllegalArgumentException.class ? 'A' : type == IndexOutOfBoundsException.class ? 'I'
                    : type == NoSuchElementException.class ? 'N' : type == UnsupportedOperationException.class ? 'U'
                    : type == IllegalStateException.class ? 'S' : type == ArithmeticException.class ? 'M' : '?';
        }
        return '.';
    }

    private void changesNothing(String what, Supplier<DeductionDesk> prepare, Consumer<DeductionDesk> call) {
        for (Function<DeductionDesk, String> view : Desks.viewsOf(prepare.get())) {
            DeductionDesk desk = prepare.get();
            outcomeOf(desk, call);
            same(what + " and changes nothing", view.apply(desk), view.apply(prepare.get()));
        }
    }

    int answers() {
        return right + wrong;
    }

    /** What stands in front of each wrong answer from now on. */
    void about(String context) {
        this.context = context;
    }

    void wrong(String what) {
        count(false, what);
    }

    void end() {
        System.out.println(name + ": " + right + " right, " + wrong + " wrong");
        if (wrong != 0 || right == 0) {
            System.exit(1);
        }
    }

    private void count(boolean isRight, String what) {
        if (isRight) {
            right++;
        } else {
            wrong++;
            System.out.println(name + ": " + context + what);
        }
    }
}
