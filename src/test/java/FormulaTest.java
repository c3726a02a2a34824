import java.util.NoSuchElementException;
import java.util.function.ToIntBiFunction;

/** Promises 1 to 11: a new desk, the formulas, their symbols and their bindings. */
public final class FormulaTest {
    private static final Class<?> ARGUMENT = IllegalArgumentException.class;
    private static final Class<?> INDEX = IndexOutOfBoundsException.class;
    private static final Class<?> NO_SUCH = NoSuchElementException.class;
    private static final Class<?> STATE = IllegalStateException.class;
    private static final int[] ODD = {-1, Integer.MIN_VALUE, Integer.MAX_VALUE};
    private static final Check CHECK = new Check("FormulaTest");

    private FormulaTest() {
    }

    public static void main(String[] args) {
        testNewObject();
        testLetter();
        testFalsum();
        testNegation();
        testConnective("promise 5: conjunction", 'K', (desk, pair) -> desk.conjunction(pair[0], pair[1]));
        testConnective("promise 6: disjunction", 'A', (desk, pair) -> desk.disjunction(pair[0], pair[1]));
        testConnective("promise 7: implication", 'C', (desk, pair) -> desk.implication(pair[0], pair[1]));
        testFormulas();
        testSizeOf();
        testSymbolAt();
        testBind();
        CHECK.end();
    }

    private static DeductionDesk full() {
        return Desks.fillFormulas(new DeductionDesk());
    }

    /** A desk with 150 formulas, among them 'a' to 'd', but neither 'e' nor falsum. */
    private static DeductionDesk fullWithoutE() {
        DeductionDesk desk = new DeductionDesk();
        int letter = desk.letter(0);
        int formula = letter;
        for (int size = 3; size <= 29; size += 2) {
            desk.disjunction(letter, formula);
            desk.implication(letter, formula);
            formula = desk.conjunction(letter, formula);
        }
        return Desks.fillFormulas(desk);
    }

    private static void testNewObject() {
        DeductionDesk desk = new DeductionDesk();
        CHECK.same("promise 1: formulas of a new desk", desk.formulas(), 0);
        CHECK.same("promise 1: lemmas of a new desk", desk.lemmas(), 0);
        CHECK.same("promise 1: lines of a new desk", desk.lines(), 0);
        CHECK.same("promise 1: boxes of a new desk", desk.boxes(), 0);
        CHECK.same("promise 1: a new desk knows nothing of another one", desk.letter(3), 0);
        CHECK.same("promise 1: nothing is bound", desk.bind(0, 0), -1);
        CHECK.refuses("promise 1: no box is open", STATE, DeductionDesk::new, x -> x.closeBox());
    }

    private static void testLetter() {
        DeductionDesk desk = new DeductionDesk();
        for (int letter = 4; letter >= 0; letter--) {
            CHECK.same("promise 2: letter " + letter, desk.letter(letter), 4 - letter);
            CHECK.same("promise 2: its symbol", desk.symbolAt(4 - letter, 0), 'a' + letter);
        }
        CHECK.same("promise 2: a known letter", desk.letter(3), 1);
        CHECK.same("promise 2: a known letter is not known twice", desk.formulas(), 5);
        for (int letter : new int[] {-1, 5, Integer.MIN_VALUE, Integer.MAX_VALUE}) {
            CHECK.refuses("promise 2: letter " + letter, ARGUMENT, DeductionDesk::new, x -> x.letter(letter));
        }
        CHECK.same("promise 2: 150 formulas", fullWithoutE().formulas(), 150);
        CHECK.same("promise 2: a known letter among 150 formulas", fullWithoutE().letter(0), 0);
        CHECK.refuses("promise 2: the 151st formula", STATE, FormulaTest::fullWithoutE, x -> x.letter(4));
        CHECK.refuses("promise 2: no letter, first", ARGUMENT, FormulaTest::fullWithoutE, x -> x.letter(5));
    }

    private static void testFalsum() {
        DeductionDesk desk = Desks.with("a");
        CHECK.same("promise 3: falsum", desk.falsum(), 1);
        CHECK.same("promise 3: falsum again", desk.falsum(), 1);
        CHECK.same("promise 3: its symbols", Desks.symbols(desk, 1), "F");
        CHECK.refuses("promise 3: the 151st formula", STATE, FormulaTest::full, x -> x.falsum());
        CHECK.same("promise 3: known among 150 formulas", Desks.fillFormulas(Desks.with("F")).falsum(), 0);
    }

    private static void testNegation() {
        DeductionDesk desk = Desks.with("a", "Kab");
        CHECK.same("promise 4: a negation", desk.negation(2), 3);
        CHECK.same("promise 4: its symbols", Desks.symbols(desk, 3), "NKab");
        CHECK.same("promise 4: a negation of it", Desks.symbols(desk, desk.negation(3)), "NNKab");
        CHECK.same("promise 4: known", desk.negation(2), 3);
        CHECK.same("promise 4: not known twice", desk.formulas(), 5);
        DeductionDesk large = full();
        CHECK.same("promise 4: size 30", large.sizeOf(29), 30);
        CHECK.same("promise 4: known among 150 formulas", large.negation(28), 29);
        CHECK.refuses("promise 4: size 31", STATE, () -> Desks.with("N".repeat(29) + "a"), x -> x.negation(29));
        CHECK.refuses("promise 4: the 151st formula", STATE, () -> Desks.fillFormulas(Desks.with("Kab")),
                x -> x.negation(2));
        for (int odd : ODD) {
            CHECK.refuses("promise 4: formula " + odd, INDEX, FormulaTest::full, x -> x.negation(odd));
        }
        CHECK.refuses("promise 4: the formula behind the last", INDEX, () -> Desks.with("a"), x -> x.negation(1));
    }

    private static void testConnective(String name, char symbol, ToIntBiFunction<DeductionDesk, int[]> call) {
        DeductionDesk desk = Desks.with("Na", "b");
        int whole = call.applyAsInt(desk, new int[] {1, 2});
        CHECK.same(name, whole, 3);
        CHECK.same(name + ", its symbols", Desks.symbols(desk, whole), symbol + "Nab");
        CHECK.same(name + " the other way round", call.applyAsInt(desk, new int[] {2, 1}), 4);
        CHECK.same(name + " the other way round, its symbols", Desks.symbols(desk, 4), symbol + "bNa");
        CHECK.same(name + " of the same twice", Desks.symbols(desk, call.applyAsInt(desk, new int[] {4, 4})),
                symbol + (symbol + "bNa") + (symbol + "bNa"));
        CHECK.same(name + " that is known", call.applyAsInt(desk, new int[] {1, 2}), 3);
        CHECK.same(name + " is not known twice", desk.formulas(), 6);

        DeductionDesk large = Desks.with("N".repeat(13) + "a", "N".repeat(14) + "a");
        CHECK.same(name + " of size 30", large.sizeOf(call.applyAsInt(large, new int[] {13, 14})), 30);
        CHECK.refuses(name + " of size 31", STATE, () -> Desks.with("N".repeat(14) + "a"),
                x -> call.applyAsInt(x, new int[] {14, 14}));
        CHECK.refuses(name + ", the 151st formula", STATE, FormulaTest::full,
                x -> call.applyAsInt(x, new int[] {0, 1}));
        DeductionDesk last = Desks.fillFormulas(desk);
        CHECK.same(name + " known among 150 formulas", call.applyAsInt(last, new int[] {1, 2}), 3);
        for (int odd : ODD) {
            CHECK.refuses(name + " with the left one " + odd, INDEX, FormulaTest::full,
                    x -> call.applyAsInt(x, new int[] {odd, 0}));
            CHECK.refuses(name + " with the right one " + odd, INDEX, FormulaTest::full,
                    x -> call.applyAsInt(x, new int[] {0, odd}));
        }
        CHECK.refuses(name + " with the left one behind the last", INDEX, () -> Desks.with("a"),
                x -> call.applyAsInt(x, new int[] {1, 0}));
        CHECK.refuses(name + " with the right one behind the last", INDEX, () -> Desks.with("a"),
                x -> call.applyAsInt(x, new int[] {0, 1}));
    }

    private static void testFormulas() {
        DeductionDesk desk = new DeductionDesk();
        CHECK.same("promise 8: none", desk.formulas(), 0);
        Desks.make(desk, "KaNa");
        CHECK.same("promise 8: each part once", desk.formulas(), 3);
        CHECK.same("promise 8: 150", full().formulas(), 150);
    }

    private static void testSizeOf() {
        DeductionDesk desk = Desks.with("CKaNbF");
        CHECK.same("promise 9: a letter", desk.sizeOf(0), 1);
        CHECK.same("promise 9: a negation", desk.sizeOf(2), 2);
        CHECK.same("promise 9: a conjunction", desk.sizeOf(3), 4);
        CHECK.same("promise 9: falsum", desk.sizeOf(4), 1);
        CHECK.same("promise 9: an implication", desk.sizeOf(5), 6);
        CHECK.same("promise 9: a disjunction", desk.sizeOf(desk.disjunction(5, 3)), 11);
        for (int odd : new int[] {-1, 6, Integer.MIN_VALUE, Integer.MAX_VALUE}) {
            CHECK.refuses("promise 9: formula " + odd, INDEX, () -> Desks.with("CKaNbF"), x -> x.sizeOf(odd));
        }
    }

    private static void testSymbolAt() {
        String text = "CKaNbAFCed";
        DeductionDesk desk = Desks.with(text);
        int formula = desk.formulas() - 1;
        for (int i = 0; i < text.length(); i++) {
            CHECK.same("promise 10: symbol " + i, desk.symbolAt(formula, i), text.charAt(i));
        }
        for (int odd : new int[] {-1, 10, 30, Integer.MIN_VALUE, Integer.MAX_VALUE}) {
            CHECK.refuses("promise 10: symbol " + odd, NO_SUCH, () -> Desks.with(text),
                    x -> x.symbolAt(formula, odd));
        }
        CHECK.refuses("promise 10: the second symbol of a letter", NO_SUCH, () -> Desks.with(text),
                x -> x.symbolAt(0, 1));
        CHECK.refuses("promise 10: no formula, first", INDEX, () -> Desks.with(text),
                x -> x.symbolAt(formula + 1, -1));
        CHECK.refuses("promise 10: formula -1", INDEX, () -> Desks.with(text), x -> x.symbolAt(-1, 0));
        DeductionDesk large = full();
        CHECK.same("promise 10: the last symbol of 30", large.symbolAt(149, 29), 'e');
    }

    private static void testBind() {
        DeductionDesk desk = Desks.with("a", "b", "Kab");
        CHECK.same("promise 11: the first binding", desk.bind(4, 2), -1);
        CHECK.same("promise 11: another letter", desk.bind(0, 1), -1);
        CHECK.same("promise 11: the second binding", desk.bind(4, 0), 2);
        CHECK.same("promise 11: the third binding", desk.bind(4, 0), 0);
        CHECK.same("promise 11: the other letter again", desk.bind(0, 2), 1);
        desk.newProof();
        CHECK.same("promise 11: bindings stay", desk.bind(0, 2), 2);
        for (int odd : new int[] {-1, 5, Integer.MIN_VALUE, Integer.MAX_VALUE}) {
            CHECK.refuses("promise 11: letter " + odd, ARGUMENT, () -> Desks.with("a", "b"), x -> x.bind(odd, 0));
            CHECK.refuses("promise 11: letter " + odd + ", first", ARGUMENT, DeductionDesk::new,
                    x -> x.bind(odd, odd));
        }
        for (int odd : new int[] {-1, 2, Integer.MIN_VALUE, Integer.MAX_VALUE}) {
            CHECK.refuses("promise 11: formula " + odd, INDEX, () -> Desks.with("a", "b"), x -> x.bind(1, odd));
        }
    }
}
