import java.util.function.BiConsumer;
import java.util.function.BiFunction;
import java.util.function.Supplier;

/** Promises 45 to 50: each sentence that names a boundary case, with a test of its own. */
public final class EdgesOfTruthTest {
    private static final String FORMULA = "- `formula`: the number of the formula";
    private static final String NO_FORMULA = "Throws `IndexOutOfBoundsException` if there is no such formula";
    // Formulas and the number of valuations for which each one is true, from none to all.
    private static final String[] FORMULAS = {"F", "KaNa", "KKKKabcde", "KKKKNaNbNcNdNe", "KKKabcd", "KKabc", "Kab",
        "a", "e", "CaNa", "Aab", "Cab", "AAabc", "AAAAabcde", "NKKKKabcde", "NF", "AaNa", "CFa", "CeNF"};
    private static final int[] COUNTS = {0, 0, 1, 1, 2, 4, 8, 16, 16, 16, 24, 24, 28, 31, 31, 32, 32, 32, 32};
    private static final Edges EDGES = new Edges("EdgesOfTruthTest");
    private static final Check CHECK = EDGES.check();

    private EdgesOfTruthTest() {
    }

    public static void main(String[] args) {
        EDGES.section("Promise 45: models");
        EDGES.noEdge("Returns the number of valuations for which a formula is true, found from a table that is ..");
        testModels("Returns the number of valuations, 0 to 32.", (x, n) -> x.models(n));
        EDGES.section("Promise 46: modelsByRows");
        EDGES.noEdge("Returns the same number, found by one valuation after the other.");
        testModels("Returns the number of valuations.", (x, n) -> x.modelsByRows(n));
        testFollows();
        testIsSound();
        testShare();
        testMeanSize();
        EDGES.end();
    }

    private static void noFormula(BiConsumer<DeductionDesk, Integer> call) {
        CHECK.outcomes("none", DeductionDesk::new, -1, "II", call);
        CHECK.outcomes("two", () -> Desks.with("a", "b"), -1, "I..I", call);
        CHECK.outcomes("150", () -> Desks.fillWith(new DeductionDesk(), 4, 150), -1, "I" + ".".repeat(150) + "I", call);
    }

    private static void testModels(String sentence, BiFunction<DeductionDesk, Integer, Integer> call) {
        EDGES.noEdge(FORMULA);
        EDGES.sentence(sentence, () -> {
            for (int i = 0; i < COUNTS.length; i++) {
                DeductionDesk desk = Desks.with(FORMULAS[i]);
                CHECK.same("models of " + FORMULAS[i], call.apply(desk, desk.formulas() - 1), COUNTS[i]);
            }
            DeductionDesk full = Desks.fillFormulas(new DeductionDesk());
            CHECK.same("the first of 150", call.apply(full, 0), 16);
            CHECK.same("the last of 150", call.apply(full, 149), 16);
            DeductionDesk large = Desks.with("C".repeat(14) + "abcde".repeat(3));
            CHECK.same("a long row of implications", call.apply(large, large.formulas() - 1), 21);
        });
        EDGES.sentence(NO_FORMULA, () -> noFormula(call::apply));
    }

    private static void follows(String what, Supplier<DeductionDesk> prepare, String formula, boolean due) {
        DeductionDesk desk = prepare.get();
        CHECK.same(what + ": " + formula, desk.follows(Desks.make(desk, formula)), due);
    }

    private static void testFollows() {
        EDGES.section("Promise 47: follows");
        EDGES.noEdge(FORMULA);
        EDGES.sentence("Returns whether a formula follows from the formulas of all lines that can be cited.", () -> {
            follows("no lines", DeductionDesk::new, "AaNa", true);
            follows("no lines", DeductionDesk::new, "a", false);
            follows("a line of an open box", () -> {
                DeductionDesk x = Desks.with("a");
                x.assume(0);
                return x;
            }, "a", true);
            follows("a line of a closed box", () -> Desks.closed(new DeductionDesk(), "a"), "a", false);
            follows("falsum in a closed box", () -> Desks.closed(new DeductionDesk(), "F"), "a", false);
            follows("a line of the proof before", () -> {
                DeductionDesk x = Desks.proving("a");
                x.newProof();
                return x;
            }, "a", false);
            follows("five lines", () -> Desks.proving("a", "b", "c", "d", "e"), "KKKKabcde", true);
            follows("four lines", () -> Desks.proving("a", "b", "c", "d"), "KKKKabcde", false);
            follows("the first of 60 lines", () -> Desks.fillLinesTo(Desks.proving("a", "b"), 1, 60), "a", true);
            follows("the last of 60 lines", () -> {
                DeductionDesk x = Desks.fillLinesTo(Desks.proving("a"), 0, 59);
                x.premise(Desks.make(x, "b"));
                return x;
            }, "b", true);
        });
        EDGES.sentence("Returns whether it follows.", () -> {
            follows("falsum", () -> Desks.proving("F"), "KaNa", true);
            follows("from falsum alone", () -> Desks.proving("a"), "F", false);
            follows("what is always true", () -> Desks.proving("F"), "NF", true);
            follows("one valuation less", () -> Desks.proving("KKKKabcde"), "F", false);
            follows("one valuation more", () -> Desks.proving("NF"), "AAAAabcde", false);
            follows("the same valuations", () -> Desks.proving("Cab"), "ANab", true);
        });
        EDGES.sentence(NO_FORMULA, () -> {
            noFormula((x, n) -> x.follows(n));
            CHECK.outcomes("two lines", () -> Desks.proving("a", "b"), -1, "I..I", (x, n) -> x.follows(n));
        });
    }

    private static void testIsSound() {
        EDGES.section("Promise 48: isSound");
        EDGES.noEdge("Returns whether a line is sound.", "- `line`: the number of the line");
        EDGES.sentence("Returns whether its formula follows from the formulas of all premises of ..", () -> {
            sound("a premise", Desks.proving("KaNb"));
            sound("an assumption in no premise", Desks.closed(new DeductionDesk(), "a"));
            sound("lines of open and closed boxes", Desks.nested());
            DeductionDesk workshop = Desks.workshop();
            Desks.ENTERING.forEach(each -> each.accept(workshop));
            sound("each rule", workshop);
            DeductionDesk deep = Desks.with("a", "b", "c", "d", "e", "F");
            for (int line = 0; line < 59; line++) {
                deep.assume(line < 30 ? line % 5 : 5 - line % 6);
            }
            deep.repeat(0);
            sound("60 lines in 59 boxes", deep);
            DeductionDesk late = Desks.closed(Desks.proving("a"), "b");
            late.premise(Desks.make(late, "F"));
            sound("lines before a premise that is never true", late);
            DeductionDesk none = Desks.closed(new DeductionDesk(), "a");
            none.makeImplication(0);
            sound("a line that needs no premise", none);
        });
        EDGES.sentence("Throws `IndexOutOfBoundsException` if there is no such line", () -> {
            CHECK.outcomes("none", () -> Desks.with("a"), -1, "II", (x, n) -> x.isSound(n));
            CHECK.outcomes("lines of the proof before", Desks::begunAnew, -1, "I.I", (x, n) -> x.isSound(n));
            CHECK.outcomes("open and closed boxes", Desks::nested, -1, "I........I", (x, n) -> x.isSound(n));
            CHECK.outcomes("60", () -> Desks.fillLines(Desks.nested(), 0), -1, "I" + ".".repeat(60) + "I",
                    (x, n) -> x.isSound(n));
        });
    }

    private static void sound(String what, DeductionDesk desk) {
        for (int line = 0; line < desk.lines(); line++) {
            CHECK.same(what + ", line " + line, desk.isSound(line), true);
        }
    }

    private static void testShare() {
        EDGES.section("Promise 49: share");
        EDGES.noEdge("Returns the share of the valuations for which a formula is true.", FORMULA);
        EDGES.sentence("Returns the number of these valuations divided by 32, both converted to float.", () -> {
            for (int i = 0; i < COUNTS.length; i++) {
                DeductionDesk desk = Desks.with(FORMULAS[i]);
                CHECK.exact("share of " + FORMULAS[i], desk.share(desk.formulas() - 1), COUNTS[i] / 32f);
            }
            CHECK.exact("the last of 150", Desks.fillFormulas(new DeductionDesk()).share(149), 0.5);
        });
        EDGES.sentence(NO_FORMULA, () -> noFormula((x, n) -> x.share(n)));
    }

    private static void testMeanSize() {
        EDGES.section("Promise 50: meanSize");
        EDGES.sentence("Returns the mean size of the formulas of all lines.", () -> {
            CHECK.exact("a line of a closed box", Desks.closed(Desks.proving("a"), "Kab").meanSize(), 2.0);
            CHECK.exact("the same formula twice", Desks.proving("a", "a", "NNNa").meanSize(), 2.0);
            DeductionDesk formulas = Desks.proving("a");
            Desks.make(formulas, "KKabKab");
            CHECK.exact("formulas without a line do not count", formulas.meanSize(), 1.0);
            DeductionDesk again = Desks.proving("NNNa");
            again.newProof();
            again.premise(0);
            CHECK.exact("lines of the proof before do not count", again.meanSize(), 1.0);
        });
        EDGES.sentence("Returns the sum of the sizes divided by the number of lines, both converted to double.", () -> {
            CHECK.exact("the least", Desks.proving("F").meanSize(), 1.0);
            CHECK.exact("the greatest", Desks.fillLines(Desks.proving("N".repeat(29) + "a"), 0).meanSize(), 30.0);
            CHECK.exact("not a whole number", Desks.proving("a", "b", "Kab").meanSize(), 5.0 / 3.0);
            CHECK.exact("a half", Desks.proving("a", "Na").meanSize(), 1.5);
            CHECK.exact("60 lines", Desks.fillLinesTo(Desks.proving("NNNNNNa", "a"), 1, 60).meanSize(), 66.0 / 60.0);
        });
        EDGES.sentence("Throws `ArithmeticException` if the proof has no lines", () -> {
            CHECK.outcome("a new desk", 'M', DeductionDesk::new, x -> x.meanSize());
            CHECK.outcome("formulas alone", 'M', () -> Desks.with("a"), x -> x.meanSize());
            CHECK.outcome("a new proof", 'M', () -> {
                DeductionDesk x = Desks.nested();
                x.newProof();
                return x;
            }, x -> x.meanSize());
            CHECK.outcome("one line", '.', () -> Desks.proving("a"), x -> x.meanSize());
        });
    }
}
