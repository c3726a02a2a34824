import java.util.NoSuchElementException;
import java.util.function.BiConsumer;
import java.util.function.Supplier;

/** Promises 12 to 26: the lines, the boxes and the rules. Line 0 is mostly falsum, from which a box gets any result. */
public final class ProofTest {
    private static final Class<?> INDEX = IndexOutOfBoundsException.class;
    private static final Class<?> NO_SUCH = NoSuchElementException.class;
    private static final Class<?> SHAPE = UnsupportedOperationException.class;
    private static final Class<?> STATE = IllegalStateException.class;
    private static final Check CHECK = new Check("ProofTest");

    private ProofTest() {
    }

    public static void main(String[] args) {
        testPremise();
        testAssume();
        testCloseBox();
        testRepeat();
        testMakeConjunction();
        testUseConjunction();
        testMakeDisjunction();
        testUseDisjunction();
        testMakeImplication();
        testUseImplication();
        testMakeNegation();
        testUseNegation();
        testFromFalsum();
        testDoubleNegation();
        testNewProof();
        CHECK.end();
    }

    private static void entered(String what, DeductionDesk desk, int got, String formula, char rule) {
        CHECK.same(what + ", its number", got, desk.lines() - 1);
        CHECK.same(what + ", its formula", Desks.shown(desk, got), formula);
        CHECK.same(what + ", its rule", String.valueOf(desk.ruleOf(got)), String.valueOf(rule));
    }

    private static void refusesNumbers(String what, Supplier<DeductionDesk> prepare, int count,
            BiConsumer<DeductionDesk, Integer> call) {
        for (int odd : new int[] {-1, count, 60, 150, Integer.MIN_VALUE, Integer.MAX_VALUE}) {
            CHECK.refuses(what + " " + odd, INDEX, prepare, x -> call.accept(x, odd));
        }
    }

    private static DeductionDesk fullOfLines(DeductionDesk desk) {
        return Desks.fillLines(desk, 0);
    }

    private static void testPremise() {
        DeductionDesk desk = Desks.with("Kab", "c");
        entered("promise 12: a premise", desk, desk.premise(2), "Kab", 'P');
        entered("promise 12: the same once more", desk, desk.premise(2), "Kab", 'P');
        CHECK.same("promise 12: it lies in no box", desk.depthOf(1), 0);
        Desks.closed(desk, "a");
        entered("promise 12: behind a closed box", desk, desk.premise(3), "c", 'P');
        Supplier<DeductionDesk> open = () -> {
            DeductionDesk x = Desks.with("a", "b");
            x.assume(0);
            return x;
        };
        CHECK.refuses("promise 12: in a box", SHAPE, open, x -> x.premise(0));
        refusesNumbers("promise 12: no formula, first, in a box:", open, 2, (x, n) -> x.premise(n));
        DeductionDesk sixty = Desks.proving("a");
        for (int line = 1; line < 60; line++) {
            CHECK.same("promise 12: line " + line, sixty.premise(0), line);
        }
        CHECK.refuses("promise 12: the 61st line", STATE, () -> fullOfLines(Desks.proving("a")), x -> x.premise(0));
        CHECK.refuses("promise 12: the 61st line in a box", SHAPE, () -> fullOfLines(open.get()), x -> x.premise(0));
    }

    private static void testAssume() {
        DeductionDesk desk = Desks.proving("a");
        entered("promise 13: an assumption", desk, desk.assume(0), "a", 'H');
        entered("promise 13: an assumption inside", desk, desk.assume(Desks.make(desk, "Nb")), "Nb", 'H');
        CHECK.same("promise 13: boxes", desk.boxes(), 2);
        CHECK.same("promise 13: in its own box", desk.depthOf(1), 1);
        CHECK.same("promise 13: in both boxes", desk.depthOf(2), 2);
        CHECK.same("promise 13: the result of the inner box", Desks.symbols(desk, desk.resultOf(1)), "Nb");
        CHECK.same("promise 13: the result of the outer box", Desks.symbols(desk, desk.resultOf(0)), "a");
        refusesNumbers("promise 13: no formula", () -> Desks.proving("a", "b"), 2, (x, n) -> x.assume(n));
        refusesNumbers("promise 13: no formula, first, behind 60 lines", () -> fullOfLines(Desks.proving("a")), 1,
                (x, n) -> x.assume(n));
        CHECK.refuses("promise 13: the 61st line", STATE, () -> fullOfLines(Desks.proving("a")), x -> x.assume(0));
        DeductionDesk deep = Desks.with("a");
        for (int line = 0; line < 60; line++) {
            deep.assume(0);
        }
        CHECK.same("promise 13: 60 boxes", deep.boxes(), 60);
        CHECK.same("promise 13: a line in 60 boxes", deep.depthOf(59), 60);
    }

    private static void testCloseBox() {
        DeductionDesk desk = Desks.with("a", "b");
        desk.assume(0);
        desk.assume(1);
        CHECK.same("promise 14: the inner box", desk.closeBox(), 1);
        desk.assume(0);
        CHECK.same("promise 14: the second inner box", desk.closeBox(), 2);
        CHECK.same("promise 14: the outer box", desk.closeBox(), 0);
        CHECK.same("promise 14: no line is entered", desk.lines(), 3);
        CHECK.same("promise 14: no box is given up", desk.boxes(), 3);
        desk.assume(1);
        CHECK.same("promise 14: the next box", desk.closeBox(), 3);
        CHECK.refuses("promise 14: no box", STATE, () -> Desks.proving("a"), x -> x.closeBox());
        CHECK.refuses("promise 14: closed boxes only", STATE, () -> Desks.closed(Desks.proving("a"), "b"),
                x -> x.closeBox());
        DeductionDesk sixty = Desks.with("a");
        sixty.assume(0);
        CHECK.same("promise 14: behind 60 lines", fullOfLines(sixty).closeBox(), 0);
    }

    private static void testRepeat() {
        DeductionDesk desk = Desks.proving("a", "Kab");
        entered("promise 15: a line", desk, desk.repeat(1), "Kab", 'R');
        desk.assume(0);
        entered("promise 15: a line from outside of the box", desk, desk.repeat(0), "a", 'R');
        entered("promise 15: a line of the box", desk, desk.repeat(3), "a", 'R');
        Supplier<DeductionDesk> behind = () -> Desks.closed(Desks.proving("a"), "b");
        CHECK.refuses("promise 15: a line of a closed box", NO_SUCH, behind, x -> x.repeat(1));
        refusesNumbers("promise 15: no line", behind, 2, (x, n) -> x.repeat(n));
        CHECK.refuses("promise 15: the 61st line", STATE, () -> fullOfLines(behind.get()), x -> x.repeat(0));
        CHECK.refuses("promise 15: not cited, first", NO_SUCH, () -> fullOfLines(behind.get()), x -> x.repeat(1));
        refusesNumbers("promise 15: no line, first", () -> fullOfLines(behind.get()), 60, (x, n) -> x.repeat(n));
        CHECK.refuses("promise 15: a line of a closed box in an open one", NO_SUCH, () -> {
            DeductionDesk x = Desks.with("a");
            x.assume(0);
            x.assume(0);
            x.closeBox();
            return x;
        }, x -> x.repeat(1));
        CHECK.refuses("promise 15: a line of a box that is closed with the outer one", NO_SUCH, () -> {
            DeductionDesk x = Desks.with("a");
            x.assume(0);
            x.assume(0);
            x.closeBox();
            x.closeBox();
            x.assume(0);
            return x;
        }, x -> x.repeat(1));
    }

    private static void testMakeConjunction() {
        DeductionDesk desk = Desks.proving("a", "Nb");
        entered("promise 16: two lines", desk, desk.makeConjunction(0, 1), "KaNb", 'k');
        entered("promise 16: the other way round", desk, desk.makeConjunction(1, 0), "KNba", 'k');
        entered("promise 16: one line twice", desk, desk.makeConjunction(2, 2), "KKaNbKaNb", 'k');
        Supplier<DeductionDesk> behind = () -> Desks.closed(Desks.proving("a"), "b");
        refusesNumbers("promise 16: no first line", behind, 2, (x, n) -> x.makeConjunction(n, 0));
        refusesNumbers("promise 16: no second line", behind, 2, (x, n) -> x.makeConjunction(0, n));
        refusesNumbers("promise 16: no second line, before what cannot be cited", behind, 2,
                (x, n) -> x.makeConjunction(1, n));
        CHECK.refuses("promise 16: the first line not cited", NO_SUCH, behind, x -> x.makeConjunction(1, 0));
        CHECK.refuses("promise 16: the second line not cited", NO_SUCH, behind, x -> x.makeConjunction(0, 1));
        CHECK.refuses("promise 16: the 61st line", STATE, () -> fullOfLines(behind.get()),
                x -> x.makeConjunction(0, 0));
        CHECK.refuses("promise 16: not cited, first", NO_SUCH, () -> fullOfLines(behind.get()),
                x -> x.makeConjunction(0, 1));
        CHECK.refuses("promise 16: size 31", STATE, () -> Desks.proving("N".repeat(14) + "a"),
                x -> x.makeConjunction(0, 0));
        CHECK.refuses("promise 16: the 151st formula", STATE, () -> Desks.fillFormulas(Desks.proving("a", "b")),
                x -> x.makeConjunction(0, 1));
        DeductionDesk large = Desks.fillFormulas(Desks.proving("N".repeat(13) + "a", "N".repeat(14) + "a",
                "K" + "N".repeat(13) + "a" + "N".repeat(14) + "a"));
        CHECK.same("promise 16: size 30, known among 150 formulas", large.makeConjunction(0, 1), 3);
        CHECK.same("promise 16: size 30", large.sizeOf(large.formulaOf(3)), 30);
    }

    private static void testUseConjunction() {
        DeductionDesk desk = Desks.proving("KNab");
        entered("promise 17: the left formula", desk, desk.useConjunction(0, false), "Na", 'l');
        entered("promise 17: the right formula", desk, desk.useConjunction(0, true), "b", 'r');
        CHECK.same("promise 17: no formula is made", desk.formulas(), 4);
        Supplier<DeductionDesk> behind = () -> Desks.closed(
                Desks.proving("Kab", "Aab", "Cab", "NKab", "a", "F"), "Kaa");
        refusesNumbers("promise 17: no line", behind, 7, (x, n) -> x.useConjunction(n, true));
        CHECK.refuses("promise 17: not cited", NO_SUCH, behind, x -> x.useConjunction(6, false));
        for (int line = 1; line < 6; line++) {
            int odd = line;
            CHECK.refuses("promise 17: no conjunction", SHAPE, behind, x -> x.useConjunction(odd, false));
        }
        Supplier<DeductionDesk> full = () -> fullOfLines(behind.get());
        CHECK.refuses("promise 17: the 61st line", STATE, full, x -> x.useConjunction(0, false));
        CHECK.refuses("promise 17: no conjunction, first", SHAPE, full, x -> x.useConjunction(1, false));
        CHECK.refuses("promise 17: not cited, first", NO_SUCH, full, x -> x.useConjunction(6, false));
    }

    private static void testMakeDisjunction() {
        DeductionDesk desk = Desks.proving("a");
        int other = Desks.make(desk, "Nb");
        entered("promise 18: the line is the left one", desk, desk.makeDisjunction(0, other, false), "AaNb", 'a');
        entered("promise 18: the line is the right one", desk, desk.makeDisjunction(0, other, true), "ANba", 'b');
        Supplier<DeductionDesk> behind = () -> Desks.closed(Desks.proving("a"), "b");
        refusesNumbers("promise 18: no line", behind, 2, (x, n) -> x.makeDisjunction(n, 0, true));
        refusesNumbers("promise 18: no formula", behind, 2, (x, n) -> x.makeDisjunction(0, n, true));
        refusesNumbers("promise 18: no formula, first", behind, 2, (x, n) -> x.makeDisjunction(1, n, true));
        CHECK.refuses("promise 18: not cited", NO_SUCH, behind, x -> x.makeDisjunction(1, 0, false));
        CHECK.refuses("promise 18: not cited, first", NO_SUCH, () -> fullOfLines(behind.get()),
                x -> x.makeDisjunction(1, 0, false));
        CHECK.refuses("promise 18: the 61st line", STATE, () -> fullOfLines(behind.get()),
                x -> x.makeDisjunction(0, 1, false));
        CHECK.refuses("promise 18: size 31", STATE, () -> Desks.proving("N".repeat(14) + "a"),
                x -> x.makeDisjunction(0, 14, true));
        CHECK.refuses("promise 18: the 151st formula", STATE, () -> Desks.fillFormulas(Desks.proving("a")),
                x -> x.makeDisjunction(0, 1, true));
        DeductionDesk large = Desks.proving("N".repeat(14) + "a");
        entered("promise 18: size 30", large, large.makeDisjunction(0, 13, true),
                "A" + "N".repeat(13) + "a" + "N".repeat(14) + "a", 'b');
    }

    private static void testUseDisjunction() {
        DeductionDesk desk = Desks.box(Desks.box(Desks.proving("F", "ANab"), "Na", "c"), "b", "c");
        entered("promise 19: two boxes", desk, desk.useDisjunction(1, 0, 1), "c", 'v');
        desk.premise(Desks.make(desk, "Abb"));
        entered("promise 19: the same box twice", desk, desk.useDisjunction(7, 1, 1), "c", 'v');
        Desks.closed(Desks.closed(desk, "Na"), "b");
        Supplier<DeductionDesk> cases = () -> {
            DeductionDesk x = Desks.box(Desks.box(Desks.proving("F", "ANab", "KNab"), "Na", "c"), "b", "c");
            Desks.box(x, "b", "d");
            x.assume(Desks.make(x, "b"));
            x.assume(Desks.make(x, "ANab"));
            x.closeBox();
            return x;
        };
        // The lines are F, ANab, KNab, three boxes of two lines, b in the open box 3 and ANab in box 4.
        refusesNumbers("promise 19: no line", cases, 11, (x, n) -> x.useDisjunction(n, 0, 1));
        refusesNumbers("promise 19: no first box", cases, 5, (x, n) -> x.useDisjunction(1, n, 1));
        refusesNumbers("promise 19: no second box", cases, 5, (x, n) -> x.useDisjunction(1, 0, n));
        refusesNumbers("promise 19: no second box, first", cases, 5, (x, n) -> x.useDisjunction(10, 3, n));
        CHECK.refuses("promise 19: the line not cited", NO_SUCH, cases, x -> x.useDisjunction(10, 0, 1));
        CHECK.refuses("promise 19: the first box open", NO_SUCH, cases, x -> x.useDisjunction(1, 3, 1));
        CHECK.refuses("promise 19: the second box open", NO_SUCH, cases, x -> x.useDisjunction(1, 0, 3));
        CHECK.refuses("promise 19: not cited, before the shape", NO_SUCH, cases, x -> x.useDisjunction(2, 0, 3));
        CHECK.refuses("promise 19: no disjunction", SHAPE, cases, x -> x.useDisjunction(2, 0, 1));
        CHECK.refuses("promise 19: the boxes exchanged", SHAPE, cases, x -> x.useDisjunction(1, 1, 0));
        CHECK.refuses("promise 19: the left box twice", SHAPE, cases, x -> x.useDisjunction(1, 0, 0));
        CHECK.refuses("promise 19: the right box twice", SHAPE, cases, x -> x.useDisjunction(1, 1, 1));
        CHECK.refuses("promise 19: other results", SHAPE, cases, x -> x.useDisjunction(1, 0, 2));
        CHECK.refuses("promise 19: the 61st line", STATE, () -> fullOfLines(cases.get()),
                x -> x.useDisjunction(1, 0, 1));
        CHECK.refuses("promise 19: the shape, first", SHAPE, () -> fullOfLines(cases.get()),
                x -> x.useDisjunction(1, 0, 2));
        CHECK.refuses("promise 19: a box in a closed box", NO_SUCH, () -> {
            DeductionDesk x = Desks.proving("Aaa");
            x.assume(0);
            x.assume(0);
            x.closeBox();
            x.closeBox();
            return x;
        }, x -> x.useDisjunction(0, 1, 1));
    }

    private static void testMakeImplication() {
        DeductionDesk desk = Desks.box(Desks.proving("F"), "Na", "b");
        entered("promise 20: a box", desk, desk.makeImplication(0), "CNab", 'c');
        entered("promise 20: a box of one line", Desks.closed(desk, "a"), desk.makeImplication(1), "Caa", 'c');
        desk.assume(Desks.make(desk, "a"));
        Desks.box(desk, "d", "e");
        entered("promise 20: a box in an open one", desk, desk.makeImplication(3), "Cde", 'c');
        desk.assume(Desks.make(desk, "b"));
        desk.closeBox();
        desk.closeBox();
        entered("promise 20: the last line that lies directly in it", desk, desk.makeImplication(2), "CaCde", 'c');
        Supplier<DeductionDesk> boxes = () -> {
            DeductionDesk x = Desks.box(Desks.proving("F"), "a", "b");
            x.assume(0);
            Desks.closed(x, "a");
            x.closeBox();
            x.assume(0);
            return x;
        };
        refusesNumbers("promise 20: no box", boxes, 4, (x, n) -> x.makeImplication(n));
        CHECK.refuses("promise 20: an open box", NO_SUCH, boxes, x -> x.makeImplication(3));
        CHECK.refuses("promise 20: a box in a closed one", NO_SUCH, boxes, x -> x.makeImplication(2));
        Supplier<DeductionDesk> full = () -> fullOfLines(boxes.get());
        CHECK.refuses("promise 20: the 61st line", STATE, full, x -> x.makeImplication(0));
        CHECK.refuses("promise 20: an open box, first", NO_SUCH, full, x -> x.makeImplication(3));
        CHECK.refuses("promise 20: size 31", STATE, () -> Desks.closed(Desks.proving("F"), "N".repeat(14) + "a"),
                x -> x.makeImplication(0));
        CHECK.refuses("promise 20: the 151st formula", STATE,
                () -> Desks.fillFormulas(Desks.box(Desks.proving("F"), "a", "b")), x -> x.makeImplication(0));
    }

    private static void testUseImplication() {
        DeductionDesk desk = Desks.proving("CNab", "Na");
        entered("promise 21: the right formula", desk, desk.useImplication(0, 1), "b", 'm');
        Supplier<DeductionDesk> lines = () -> Desks.closed(Desks.proving("Cab", "a", "b", "Aab", "Kab"), "Cab");
        refusesNumbers("promise 21: no first line", lines, 6, (x, n) -> x.useImplication(n, 1));
        refusesNumbers("promise 21: no second line", lines, 6, (x, n) -> x.useImplication(0, n));
        refusesNumbers("promise 21: no second line, first", lines, 6, (x, n) -> x.useImplication(5, n));
        CHECK.refuses("promise 21: the first line not cited", NO_SUCH, lines, x -> x.useImplication(5, 1));
        CHECK.refuses("promise 21: the second line not cited", NO_SUCH, lines, x -> x.useImplication(0, 5));
        CHECK.refuses("promise 21: the lines exchanged", SHAPE, lines, x -> x.useImplication(1, 0));
        CHECK.refuses("promise 21: the right formula instead", SHAPE, lines, x -> x.useImplication(0, 2));
        CHECK.refuses("promise 21: a disjunction", SHAPE, lines, x -> x.useImplication(3, 1));
        CHECK.refuses("promise 21: a conjunction", SHAPE, lines, x -> x.useImplication(4, 1));
        Supplier<DeductionDesk> full = () -> fullOfLines(lines.get());
        CHECK.refuses("promise 21: the 61st line", STATE, full, x -> x.useImplication(0, 1));
        CHECK.refuses("promise 21: the shape, first", SHAPE, full, x -> x.useImplication(0, 2));
        CHECK.refuses("promise 21: not cited, first", NO_SUCH, full, x -> x.useImplication(0, 5));
    }

    private static void testMakeNegation() {
        DeductionDesk desk = Desks.box(Desks.proving("F"), "Kab", "F");
        entered("promise 22: a box with falsum", desk, desk.makeNegation(0), "NKab", 'i');
        entered("promise 22: falsum itself", Desks.closed(desk, "F"), desk.makeNegation(1), "NF", 'i');
        Supplier<DeductionDesk> boxes = () -> {
            DeductionDesk x = Desks.box(Desks.box(Desks.box(Desks.proving("F"), "a", "F"), "a", "b"), "F", "NF");
            x.assume(0);
            return x;
        };
        refusesNumbers("promise 22: no box", boxes, 4, (x, n) -> x.makeNegation(n));
        CHECK.refuses("promise 22: an open box", NO_SUCH, boxes, x -> x.makeNegation(3));
        CHECK.refuses("promise 22: no falsum", SHAPE, boxes, x -> x.makeNegation(1));
        CHECK.refuses("promise 22: a negation of falsum", SHAPE, boxes, x -> x.makeNegation(2));
        Supplier<DeductionDesk> full = () -> fullOfLines(boxes.get());
        CHECK.refuses("promise 22: the 61st line", STATE, full, x -> x.makeNegation(0));
        CHECK.refuses("promise 22: no falsum, first", SHAPE, full, x -> x.makeNegation(1));
        CHECK.refuses("promise 22: an open box, first", NO_SUCH, full, x -> x.makeNegation(3));
        CHECK.refuses("promise 22: size 31", STATE, () -> Desks.box(Desks.proving("F"), "N".repeat(29) + "a", "F"),
                x -> x.makeNegation(0));
        CHECK.refuses("promise 22: the 151st formula", STATE,
                () -> Desks.fillFormulas(Desks.box(Desks.proving("F"), "Kab", "F")), x -> x.makeNegation(0));
    }

    private static void testUseNegation() {
        DeductionDesk desk = Desks.proving("NKab", "Kab");
        CHECK.same("promise 23: falsum is not known", desk.formulas(), 4);
        entered("promise 23: falsum", desk, desk.useNegation(0, 1), "F", 'n');
        CHECK.same("promise 23: falsum has become known", desk.formulas(), 5);
        Supplier<DeductionDesk> lines = () -> Desks.closed(Desks.proving("Na", "a", "NNa", "b"), "Na");
        refusesNumbers("promise 23: no first line", lines, 5, (x, n) -> x.useNegation(n, 1));
        refusesNumbers("promise 23: no second line", lines, 5, (x, n) -> x.useNegation(0, n));
        refusesNumbers("promise 23: no second line, first", lines, 5, (x, n) -> x.useNegation(4, n));
        CHECK.refuses("promise 23: the first line not cited", NO_SUCH, lines, x -> x.useNegation(4, 1));
        CHECK.refuses("promise 23: the second line not cited", NO_SUCH, lines, x -> x.useNegation(2, 4));
        CHECK.refuses("promise 23: the lines exchanged", SHAPE, lines, x -> x.useNegation(1, 0));
        CHECK.refuses("promise 23: a double negation", SHAPE, lines, x -> x.useNegation(2, 1));
        CHECK.refuses("promise 23: another formula", SHAPE, lines, x -> x.useNegation(0, 3));
        Supplier<DeductionDesk> full = () -> fullOfLines(lines.get());
        CHECK.refuses("promise 23: the 61st line", STATE, full, x -> x.useNegation(0, 1));
        CHECK.refuses("promise 23: the shape, first", SHAPE, full, x -> x.useNegation(0, 3));
        CHECK.refuses("promise 23: not cited, first", NO_SUCH, full, x -> x.useNegation(4, 1));
        CHECK.refuses("promise 23: falsum is the 151st formula", STATE,
                () -> Desks.fillFormulas(Desks.proving("Na", "a")), x -> x.useNegation(0, 1));
        DeductionDesk known = Desks.fillFormulas(Desks.proving("Na", "a", "F"));
        entered("promise 23: falsum is known among 150", known, known.useNegation(0, 1), "F", 'n');
    }

    private static void testFromFalsum() {
        DeductionDesk desk = Desks.proving("F");
        entered("promise 24: any formula", desk, desk.fromFalsum(0, Desks.make(desk, "Kab")), "Kab", 'x');
        entered("promise 24: falsum", desk, desk.fromFalsum(0, 0), "F", 'x');
        Supplier<DeductionDesk> lines = () -> Desks.closed(Desks.proving("F", "NF"), "F");
        refusesNumbers("promise 24: no line", lines, 3, (x, n) -> x.fromFalsum(n, 0));
        refusesNumbers("promise 24: no formula", lines, 2, (x, n) -> x.fromFalsum(0, n));
        refusesNumbers("promise 24: no formula, first", lines, 2, (x, n) -> x.fromFalsum(2, n));
        CHECK.refuses("promise 24: not cited", NO_SUCH, lines, x -> x.fromFalsum(2, 0));
        CHECK.refuses("promise 24: no falsum", SHAPE, lines, x -> x.fromFalsum(1, 0));
        Supplier<DeductionDesk> full = () -> fullOfLines(lines.get());
        CHECK.refuses("promise 24: the 61st line", STATE, full, x -> x.fromFalsum(0, 0));
        CHECK.refuses("promise 24: no falsum, first", SHAPE, full, x -> x.fromFalsum(1, 0));
        CHECK.refuses("promise 24: not cited, first", NO_SUCH, full, x -> x.fromFalsum(2, 0));
    }

    private static void testDoubleNegation() {
        DeductionDesk desk = Desks.proving("NNNKab");
        entered("promise 25: the formula negated twice", desk, desk.doubleNegation(0), "NKab", 'd');
        Supplier<DeductionDesk> lines = () -> Desks.closed(
                Desks.proving("NNa", "Na", "a", "NKNab", "F", "KNNab"), "NNa");
        refusesNumbers("promise 25: no line", lines, 7, (x, n) -> x.doubleNegation(n));
        CHECK.refuses("promise 25: not cited", NO_SUCH, lines, x -> x.doubleNegation(6));
        for (int line = 1; line < 6; line++) {
            int odd = line;
            CHECK.refuses("promise 25: no double negation", SHAPE, lines, x -> x.doubleNegation(odd));
        }
        Supplier<DeductionDesk> full = () -> fullOfLines(lines.get());
        CHECK.refuses("promise 25: the 61st line", STATE, full, x -> x.doubleNegation(0));
        CHECK.refuses("promise 25: no double negation, first", SHAPE, full, x -> x.doubleNegation(1));
        CHECK.refuses("promise 25: not cited, first", NO_SUCH, full, x -> x.doubleNegation(6));
    }

    private static void testNewProof() {
        DeductionDesk desk = Desks.proving("F", "a");
        desk.keepLemma();
        desk.assume(0);
        desk.bind(1, 0);
        CHECK.same("promise 26: lines that are given up", desk.newProof(), 3);
        CHECK.same("promise 26: no lines", desk.lines(), 0);
        CHECK.same("promise 26: no boxes", desk.boxes(), 0);
        CHECK.same("promise 26: formulas stay", desk.formulas(), 2);
        CHECK.same("promise 26: lemmas stay", desk.lemmas(), 1);
        CHECK.same("promise 26: bindings stay", desk.bind(1, 1), 0);
        entered("promise 26: no box is open", desk, desk.premise(1), "a", 'P');
        CHECK.same("promise 26: once more", desk.newProof(), 1);
        CHECK.same("promise 26: an empty proof", desk.newProof(), 0);
        CHECK.same("promise 26: boxes begin anew", Desks.box(Desks.proving("F"), "a", "b").boxes(), 1);
        DeductionDesk again = Desks.box(Desks.box(Desks.proving("F"), "a", "b"), "b", "c");
        again.newProof();
        again.assume(0);
        CHECK.same("promise 26: a new box has its own result", again.resultOf(0), 0);
        CHECK.same("promise 26: 60 lines", fullOfLines(Desks.proving("a")).newProof(), 60);
    }
}
