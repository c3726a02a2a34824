import java.util.function.Consumer;
import java.util.function.Supplier;

/** Counts the answers of one test that are as due, and prints the others. */
final class Check {
    private final String name;
    private int right = 0;
    private int wrong = 0;

    Check(String name) {
        this.name = name;
    }

    void same(String what, long got, long due) {
        count(got == due, what + " answered " + got + ", due is " + due);
    }

    void same(String what, boolean got, boolean due) {
        count(got == due, what + " answered " + got + ", due is " + due);
    }

    void same(String what, String got, String due) {
        count(got.equals(due), what + " answered " + got + ", due is " + due);
    }

    void exact(String what, double got, double due) {
        count(got == due, what + " answered " + got + ", due is " + due);
    }

    /** The call has to throw just this exception, and has to leave the desk as another one without the call. */
    void refuses(String what, Class<?> due, Supplier<DeductionDesk> prepare, Consumer<DeductionDesk> call) {
        DeductionDesk desk = prepare.get();
        String got = "nothing";
        try {
            call.accept(desk);
        } catch (RuntimeException e) {
            got = e.getClass().getName();
        }
        count(got.equals(due.getName()), what + " throws " + got + ", due is " + due.getName());
        same(what + " and changes nothing", Desks.picture(desk), Desks.picture(prepare.get()));
    }

    void end() {
        System.out.println(name + ": " + right + " right, " + wrong + " wrong");
        if (wrong != 0 || right == 0) {
            System.exit(1);
        }
    }

    private void count(boolean isRight, String what) {
        if (isRight) {
            right++;
        } else {
            wrong++;
            System.out.println(name + ": " + what);
        }
    }
}
