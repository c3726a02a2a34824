import java.util.NoSuchElementException;
import java.util.function.BiConsumer;
import java.util.function.Supplier;

/** Promises 31 to 39: what can be asked of the lines and the boxes. */
public final class QuestionTest {
    private static final Class<?> INDEX = IndexOutOfBoundsException.class;
    private static final Class<?> NO_SUCH = NoSuchElementException.class;
    private static final Check CHECK = new Check("QuestionTest");

    private QuestionTest() {
    }

    public static void main(String[] args) {
        testCounts();
        testFormulasAndRules();
        testDepths();
        testCanCite();
        testCanCiteBox();
        testResultOf();
        testNeeded();
        testNeededByBoxes();
        CHECK.end();
    }

    private static void refusesNumbers(String what, Supplier<DeductionDesk> prepare, int count,
            BiConsumer<DeductionDesk, Integer> call) {
        for (int odd : new int[] {-1, count, 60, Integer.MIN_VALUE, Integer.MAX_VALUE}) {
            CHECK.refuses(what + " " + odd, INDEX, prepare, x -> call.accept(x, odd));
        }
    }

    private static void testCounts() {
        DeductionDesk desk = new DeductionDesk();
        CHECK.same("promise 31: none", desk.lines(), 0);
        CHECK.same("promise 36: none", desk.boxes(), 0);
        CHECK.same("promise 31: lines", Desks.nested().lines(), 8);
        CHECK.same("promise 36: boxes, open and closed", Desks.nested().boxes(), 5);
        CHECK.same("promise 31: 60 lines", Desks.fillLines(Desks.proving("a"), 0).lines(), 60);
        desk.letter(0);
        for (int i = 0; i < 60; i++) {
            desk.assume(0);
            desk.closeBox();
        }
        CHECK.same("promise 36: 60 boxes", desk.boxes(), 60);
        desk.newProof();
        CHECK.same("promise 31: a new proof", desk.lines(), 0);
        CHECK.same("promise 36: a new proof", desk.boxes(), 0);
    }

    private static void testFormulasAndRules() {
        DeductionDesk desk = Desks.nested();
        int[] formulas = {0, 1, 2, 0, 3, 4, 0, 5};
        String rules = "PHHRHHRH";
        for (int line = 0; line < 8; line++) {
            CHECK.same("promise 32: formula of line " + line, desk.formulaOf(line), formulas[line]);
            CHECK.same("promise 33: rule of line " + line, desk.ruleOf(line), rules.charAt(line));
        }
        refusesNumbers("promise 32: line", Desks::nested, 8, (x, n) -> x.formulaOf(n));
        refusesNumbers("promise 33: line", Desks::nested, 8, (x, n) -> x.ruleOf(n));
        refusesNumbers("promise 32: empty proof, line", DeductionDesk::new, 0, (x, n) -> x.formulaOf(n));
        refusesNumbers("promise 33: empty proof, line", DeductionDesk::new, 0, (x, n) -> x.ruleOf(n));
        DeductionDesk again = Desks.nested();
        again.newProof();
        again.premise(5);
        CHECK.same("promise 32: in a new proof", again.formulaOf(0), 5);
        refusesNumbers("promise 32: line of the proof before", () -> {
            DeductionDesk x = Desks.nested();
            x.newProof();
            x.premise(5);
            return x;
        }, 1, (x, n) -> x.formulaOf(n));
    }

    private static void testDepths() {
        int[] depths = {0, 1, 2, 1, 2, 1, 1, 2};
        DeductionDesk desk = Desks.nested();
        for (int line = 0; line < 8; line++) {
            CHECK.same("promise 34: depth of line " + line, desk.depthOf(line), depths[line]);
        }
        desk.closeBox();
        desk.closeBox();
        CHECK.same("promise 34: closed boxes count", desk.depthOf(7), 2);
        CHECK.same("promise 34: behind all boxes", desk.depthOf(desk.repeat(0)), 0);
        refusesNumbers("promise 34: line", Desks::nested, 8, (x, n) -> x.depthOf(n));
    }

    private static void testCanCite() {
        String due = "ynnnnyyy";
        DeductionDesk desk = Desks.nested();
        for (int line = 0; line < 8; line++) {
            CHECK.same("promise 35: line " + line, desk.canCite(line), due.charAt(line) == 'y');
        }
        desk.closeBox();
        CHECK.same("promise 35: its box is closed", desk.canCite(7), false);
        CHECK.same("promise 35: its box is still open", desk.canCite(6), true);
        desk.closeBox();
        CHECK.same("promise 35: its box is closed, too", desk.canCite(6), false);
        CHECK.same("promise 35: an assumption of a closed box", desk.canCite(5), false);
        CHECK.same("promise 35: no box", desk.canCite(0), true);
        refusesNumbers("promise 35: line", Desks::nested, 8, (x, n) -> x.canCite(n));
    }

    private static void testCanCiteBox() {
        String due = "ynnnn";
        DeductionDesk desk = Desks.nested();
        for (int box = 0; box < 5; box++) {
            CHECK.same("promise 37: box " + box, desk.canCiteBox(box), due.charAt(box) == 'y');
        }
        desk.closeBox();
        CHECK.same("promise 37: a closed box in an open one", desk.canCiteBox(4), true);
        desk.closeBox();
        CHECK.same("promise 37: a closed box in a closed one", desk.canCiteBox(4), false);
        CHECK.same("promise 37: a closed box in none", desk.canCiteBox(3), true);
        refusesNumbers("promise 37: box", Desks::nested, 5, (x, n) -> x.canCiteBox(n));
        refusesNumbers("promise 37: no boxes, box", () -> Desks.proving("a"), 0, (x, n) -> x.canCiteBox(n));
    }

    private static void testResultOf() {
        int[] results = {0, 2, 3, 0, 5};
        DeductionDesk desk = Desks.nested();
        for (int box = 0; box < 5; box++) {
            CHECK.same("promise 38: box " + box, desk.resultOf(box), results[box]);
        }
        desk.repeat(5);
        CHECK.same("promise 38: a new last line of an open box", desk.resultOf(4), 4);
        CHECK.same("promise 38: the box around it", desk.resultOf(3), 0);
        desk.closeBox();
        desk.closeBox();
        CHECK.same("promise 38: closed", desk.resultOf(4), 4);
        refusesNumbers("promise 38: box", Desks::nested, 5, (x, n) -> x.resultOf(n));
        refusesNumbers("promise 38: no boxes, box", () -> Desks.proving("a"), 0, (x, n) -> x.resultOf(n));
    }

    private static void testNeeded() {
        CHECK.refuses("promise 39: no lines", NO_SUCH, DeductionDesk::new, x -> x.needed());
        CHECK.refuses("promise 39: no lines in a new proof", NO_SUCH, () -> {
            DeductionDesk x = Desks.proving("a");
            x.newProof();
            return x;
        }, x -> x.needed());
        DeductionDesk desk = Desks.proving("Cab", "a", "c");
        CHECK.same("promise 39: a premise", desk.needed(), 1);
        desk.useImplication(0, 1);
        CHECK.same("promise 39: two lines and itself", desk.needed(), 3);
        desk.makeConjunction(3, 3);
        CHECK.same("promise 39: a line twice", desk.needed(), 4);
        desk.makeConjunction(4, 3);
        CHECK.same("promise 39: a line by two ways", desk.needed(), 5);
        desk.makeDisjunction(2, 0, true);
        CHECK.same("promise 39: a line and a formula", desk.needed(), 2);
        desk.useConjunction(5, false);
        CHECK.same("promise 39: not the lines between", desk.needed(), 6);
        desk.assume(0);
        CHECK.same("promise 39: an assumption", desk.needed(), 1);
        desk.repeat(2);
        CHECK.same("promise 39: not the assumption around it", desk.needed(), 2);
        DeductionDesk chain = Desks.proving("a");
        for (int line = 1; line < 60; line++) {
            chain.repeat(line - 1);
        }
        CHECK.same("promise 39: 60 lines", chain.needed(), 60);
        DeductionDesk falsehood = Desks.proving("Na", "a", "NNNb");
        falsehood.useNegation(0, 1);
        CHECK.same("promise 39: falsum", falsehood.needed(), 3);
        falsehood.fromFalsum(3, 0);
        CHECK.same("promise 39: from falsum", falsehood.needed(), 4);
        falsehood.doubleNegation(2);
        CHECK.same("promise 39: a double negation", falsehood.needed(), 2);
    }

    private static void testNeededByBoxes() {
        DeductionDesk desk = Desks.proving("F", "Abc", "a");
        int a = desk.letter(0);
        int b = desk.letter(1);
        int c = desk.letter(2);
        desk.assume(b);
        desk.repeat(2);
        desk.repeat(2);
        desk.closeBox();
        desk.makeImplication(0);
        CHECK.same("promise 39: the ends of a box, and what its last line needs", desk.needed(), 4);
        desk.assume(c);
        desk.assume(b);
        desk.closeBox();
        desk.fromFalsum(0, a);
        desk.assume(b);
        desk.closeBox();
        desk.closeBox();
        desk.makeImplication(1);
        CHECK.same("promise 39: the last line that lies directly in a box", desk.needed(), 4);
        desk.useDisjunction(1, 0, 1);
        CHECK.same("promise 39: a line and two boxes", desk.needed(), 8);
        desk.assume(a);
        desk.closeBox();
        desk.makeImplication(4);
        CHECK.same("promise 39: a box of one line", desk.needed(), 2);
        desk.assume(b);
        desk.fromFalsum(0, 0);
        desk.closeBox();
        desk.makeNegation(5);
        CHECK.same("promise 39: a negation", desk.needed(), 4);
        desk.repeat(desk.lines() - 1);
        CHECK.same("promise 39: a line whose line needs a box", desk.needed(), 5);
    }
}
