import java.util.function.Supplier;

/** Promises 45 to 50: truth tables, what follows, shares and means. */
public final class TruthTest {
    private static final Class<?> INDEX = IndexOutOfBoundsException.class;
    private static final Class<?> ARITHMETIC = ArithmeticException.class;
    private static final int[] ODD = {-1, 3, 150, Integer.MIN_VALUE, Integer.MAX_VALUE};
    private static final Check CHECK = new Check("TruthTest");

    private TruthTest() {
    }

    public static void main(String[] args) {
        testModels();
        testAllTables();
        testFollows();
        testIsSound();
        testShare();
        testMeanSize();
        CHECK.end();
    }

    private static void testModels() {
        Object[][] cases = {
            {"a", 16}, {"b", 16}, {"c", 16}, {"d", 16}, {"e", 16}, {"F", 0}, {"NF", 32}, {"Na", 16}, {"NNe", 16},
            {"Kab", 8}, {"Aab", 24}, {"Cab", 24}, {"Cba", 24}, {"KaNa", 0}, {"AaNa", 32}, {"CaNa", 16},
            {"CFa", 32}, {"CaF", 16}, {"CNaa", 16}, {"KaF", 0}, {"AaF", 16}, {"KKKKabcde", 1}, {"AAAAabcde", 31},
            {"CKabc", 28}, {"CaCbc", 28}, {"CCabc", 20}, {"KCabCba", 16}, {"AKabKcd", 14}, {"NAaNb", 8},
            {"CKabKNcd", 26}, {"NKKKKabcde", 31}};
        for (Object[] each : cases) {
            String text = (String) each[0];
            int due = (Integer) each[1];
            DeductionDesk desk = Desks.with(text);
            int formula = Desks.make(desk, text);
            CHECK.same("promise 45: models of " + text, desk.models(formula), due);
            CHECK.same("promise 46: models of " + text, desk.modelsByRows(formula), due);
            CHECK.exact("promise 49: share of " + text, desk.share(formula), due / 32.0);
        }
        for (int odd : ODD) {
            CHECK.refuses("promise 45: formula " + odd, INDEX, () -> Desks.with("Kab"), x -> x.models(odd));
            CHECK.refuses("promise 46: formula " + odd, INDEX, () -> Desks.with("Kab"), x -> x.modelsByRows(odd));
        }
    }

    /** 150 formulas, among them one of size 30. */
    private static void testAllTables() {
        DeductionDesk desk = Desks.fillFormulas(new DeductionDesk());
        for (int formula = 0; formula < 150; formula++) {
            CHECK.same("promise 45: models of formula " + formula, desk.models(formula), 16);
            CHECK.same("promise 46: models of formula " + formula, desk.modelsByRows(formula), 16);
        }
    }

    private static boolean follows(DeductionDesk desk, String formula) {
        return desk.follows(Desks.make(desk, formula));
    }

    private static void testFollows() {
        DeductionDesk desk = Desks.proving("Cab", "Cbc");
        CHECK.same("promise 47: from two lines", follows(desk, "Cac"), true);
        CHECK.same("promise 47: not the other way round", follows(desk, "Cca"), false);
        CHECK.same("promise 47: a formula that is always true", follows(desk, "AdNd"), true);
        CHECK.same("promise 47: falsum", follows(desk, "F"), false);
        desk.assume(Desks.make(desk, "a"));
        CHECK.same("promise 47: from an assumption", follows(desk, "c"), true);
        desk.closeBox();
        CHECK.same("promise 47: not from a closed box", follows(desk, "c"), false);
        desk.premise(Desks.make(desk, "a"));
        CHECK.same("promise 47: from a third line", follows(desk, "Kbc"), true);
        CHECK.same("promise 47: a free letter", follows(desk, "d"), false);
        desk.premise(Desks.make(desk, "Nc"));
        CHECK.same("promise 47: anything from what is never true", follows(desk, "d"), true);
        desk.newProof();
        CHECK.same("promise 47: without lines", follows(desk, "a"), false);
        CHECK.same("promise 47: without lines, always true", follows(desk, "NF"), true);
        for (int odd : ODD) {
            CHECK.refuses("promise 47: formula " + odd, INDEX, () -> Desks.proving("Kab"), x -> x.follows(odd));
        }
    }

    private static void testIsSound() {
        DeductionDesk desk = Desks.proving("Cab");
        desk.assume(Desks.make(desk, "Cbc"));
        desk.assume(Desks.make(desk, "a"));
        desk.useImplication(0, 2);
        desk.useImplication(1, 3);
        desk.makeConjunction(4, 3);
        desk.closeBox();
        desk.makeImplication(1);
        desk.closeBox();
        desk.makeImplication(0);
        desk.assume(Desks.make(desk, "d"));
        desk.assume(Desks.make(desk, "Nd"));
        desk.useNegation(9, 8);
        desk.fromFalsum(10, Desks.make(desk, "e"));
        desk.closeBox();
        desk.closeBox();
        for (int line = 0; line < desk.lines(); line++) {
            CHECK.same("promise 48: line " + line, desk.isSound(line), true);
        }
        CHECK.same("promise 48: lines", desk.lines(), 12);
        DeductionDesk deep = Desks.with("a", "b", "c", "d", "e");
        for (int i = 0; i < 55; i++) {
            deep.assume(i % 5);
        }
        for (int line = 0; line < 4; line++) {
            deep.makeConjunction(line == 0 ? 0 : 54 + line, line + 1);
        }
        CHECK.same("promise 48: in 55 boxes", deep.isSound(58), true);
        for (int odd : new int[] {-1, 1, 60, Integer.MIN_VALUE, Integer.MAX_VALUE}) {
            CHECK.refuses("promise 48: line " + odd, INDEX, () -> Desks.proving("Kab"), x -> x.isSound(odd));
        }
        CHECK.refuses("promise 48: no lines", INDEX, () -> Desks.with("a"), x -> x.isSound(0));
    }

    private static void testShare() {
        DeductionDesk desk = Desks.with("KKKKabcde");
        CHECK.exact("promise 49: one of 32", desk.share(desk.formulas() - 1), 0.03125);
        CHECK.exact("promise 49: all but one", desk.share(desk.negation(desk.formulas() - 1)), 0.96875);
        for (int odd : ODD) {
            CHECK.refuses("promise 49: formula " + odd, INDEX, () -> Desks.with("Kab"), x -> x.share(odd));
        }
    }

    private static void testMeanSize() {
        DeductionDesk desk = Desks.proving("Kab");
        CHECK.exact("promise 50: one line", desk.meanSize(), 3.0);
        desk.assume(Desks.make(desk, "a"));
        CHECK.exact("promise 50: a box", desk.meanSize(), 2.0);
        desk.closeBox();
        desk.repeat(0);
        CHECK.exact("promise 50: a closed box counts", desk.meanSize(), 7.0 / 3.0);
        desk.makeConjunction(0, 2);
        CHECK.exact("promise 50: four lines", desk.meanSize(), 3.5);
        DeductionDesk large = Desks.fillLines(Desks.proving("N".repeat(29) + "a"), 0);
        CHECK.exact("promise 50: 60 lines of size 30", large.meanSize(), 30.0);
        Supplier<DeductionDesk> given = () -> {
            DeductionDesk x = Desks.proving("a");
            x.newProof();
            return x;
        };
        CHECK.refuses("promise 50: no lines", ARITHMETIC, DeductionDesk::new, x -> x.meanSize());
        CHECK.refuses("promise 50: no lines in a new proof", ARITHMETIC, given, x -> x.meanSize());
    }
}
