import java.util.function.BiConsumer;
import java.util.function.BiFunction;
import java.util.function.Supplier;

/** Promises 40 to 44: each sentence that names a boundary case, with a test of its own. */
public final class EdgesOfGapsTest {
    private static final String FORMULA = "- `formula`: the number of the formula";
    private static final String GOAL = "- `formula`: the number of the goal";
    private static final String NO_FORMULA = "Throws `IndexOutOfBoundsException` if there is no such formula";
    // Of size 30: its first step makes it larger, and its normal form is small.
    private static final String SHRINKING = "KCab" + "N".repeat(25) + "a";
    // Of size 30: each step makes it larger.
    private static final String GROWING = "N" + "Ka".repeat(14) + "a";
    private static final String[] NORMAL = {"a", "e", "F", "Na", "NF", "Kab", "Aab", "KaNb", "AFNF", "KANabAcNd"};
    private static final String[] NOT_NORMAL = {"Cab", "CFF", "NNa", "NNF", "NKab", "NAab", "NCab", "KaCab", "AaNNb",
        "KaKbKcNNd", "NNNa"};
    private static final Edges EDGES = new Edges("EdgesOfGapsTest");
    private static final Check CHECK = EDGES.check();

    private EdgesOfGapsTest() {
    }

    public static void main(String[] args) {
        EDGES.section("Promise 40: distance");
        EDGES.sentence("Returns the distance of a goal, found by a queue of formulas in ascending order of their ..",
                EdgesOfGapsTest::testNearerWays);
        testDistances((x, n) -> x.distance(n));
        EDGES.section("Promise 41: distanceByRounds");
        EDGES.sentence("Returns the same distance, found by rounds over all formulas in view until no ..",
                EdgesOfGapsTest::testManyRounds);
        testDistances((x, n) -> x.distanceByRounds(n));
        testNormalStep();
        testNormalSteps();
        testNormalForm();
        EDGES.end();
    }

    /** Premises, whose formulas become known first, and then formulas of the letter e up to 150. */
    private static Supplier<DeductionDesk> full(String... premises) {
        return () -> Desks.fillWith(Desks.proving(premises), 4, 150);
    }

    // ---- distances

    private static void testDistances(BiFunction<DeductionDesk, Integer, Integer> call) {
        EDGES.noEdge(GOAL);
        EDGES.sentence("Returns the distance.", () -> {
            CHECK.same("a line", call.apply(Desks.proving("a"), 0), 0);
            CHECK.same("the last of 60 lines", call.apply(chainAgainstNumbers(), 61), 0);
            CHECK.same("the nearest behind a line", call.apply(Desks.proving("NNa"), 0), 1);
            DeductionDesk full = full("F").get();
            for (int formula = 1; formula < 150; formula++) {
                CHECK.same("from falsum among 150", call.apply(full, formula), 1);
            }
            CHECK.same("falsum among 150", call.apply(full, 0), 0);
            CHECK.same("the greatest", far("dd+d+d+dddd+dddd+", call), 9999);
            CHECK.same("one less", far("dd+d+d+dddd+dddd", call), 9998);
            CHECK.same("the end of a long chain", call.apply(chainAgainstNumbers(), 2), 59);
            DeductionDesk desk = Desks.proving("Na", "a");
            CHECK.same("by falsum", call.apply(desk, desk.letter(1)), 2);
            CHECK.same("falsum is not made", desk.falsum(), 3);
        });
        BiConsumer<DeductionDesk, Integer> ask = call::apply;
        EDGES.sentence(NO_FORMULA, () -> {
            CHECK.outcomes("none", DeductionDesk::new, -1, "II", ask);
            CHECK.outcomes("two with distances", () -> Desks.proving("a", "b"), -1, "I..I", ask);
            CHECK.outcomes("two without distances", () -> Desks.with("a", "b"), -1, "INNI", ask);
            CHECK.outcomes("150 with distances", full("F"), -1, "I" + ".".repeat(150) + "I", ask);
            CHECK.outcomes("150 without distances", () -> Desks.fillWith(new DeductionDesk(), 4, 150), -1,
                    "I" + "N".repeat(150) + "I", ask);
        });
        EDGES.sentence("Throws `NoSuchElementException` if it has none", () -> {
            CHECK.outcome("no lines", 'N', () -> Desks.with("F"), x -> call.apply(x, 0));
            CHECK.outcome("a line of the proof before", 'N', () -> {
                DeductionDesk x = Desks.proving("a");
                x.newProof();
                return x;
            }, x -> call.apply(x, 0));
            CHECK.outcome("a line of a closed box", 'N', () -> Desks.closed(Desks.proving("b"), "a"),
                    x -> call.apply(x, 1));
            CHECK.outcome("a letter that no line has", 'N', () -> Desks.proving("b", "Cab"), x -> call.apply(x, 1));
            CHECK.outcome("falsum that is not reached", 'N', () -> Desks.proving("a", "NF"), x -> call.apply(x, 1));
            CHECK.outcome("9999", '.', () -> Desks.chain("dd+d+d+dddd+dddd+"), x -> call.apply(x, farEnd(x)));
            CHECK.outcome("10000", 'N', () -> Desks.chain("dd+d+d+dddd+dddd++"), x -> call.apply(x, farEnd(x)));
            CHECK.outcome("19998", 'N', () -> Desks.chain("dd+d+d+dddd+ddddd"), x -> call.apply(x, farEnd(x)));
        });
    }

    /** The formula at the end of a chain is the part of the last premise that became known before it. */
    private static int farEnd(DeductionDesk desk) {
        return desk.formulas() - 2;
    }

    private static int far(String steps, BiFunction<DeductionDesk, Integer, Integer> call) {
        DeductionDesk desk = Desks.chain(steps);
        return call.apply(desk, farEnd(desk));
    }

    /**
     * Formulas 0 and 1, d and e, are never reached. Of formulas 2 to 61, each one but the last is reached from the
     * next one by an implication, and the last one is line 59. The implications have ascending numbers, so that
     * a round in this order reaches one formula more.
     */
    private static DeductionDesk chainAgainstNumbers() {
        DeductionDesk desk = Desks.with("d", "e", "a", "b", "c");
        for (int i = 0; desk.formulas() < 62; i++) {
            desk.implication(i % 2, 2 + i / 2);
        }
        for (int link = 2; link < 61; link++) {
            desk.premise(desk.implication(link + 1, link));
        }
        desk.premise(61);
        return desk;
    }

    private static void testManyRounds() {
        DeductionDesk desk = chainAgainstNumbers();
        for (int link = 2; link < 62; link++) {
            CHECK.same("a link of a long chain", desk.distanceByRounds(link), 61 - link);
            CHECK.same("the same distance", desk.distance(link), 61 - link);
        }
    }

    private static void testNearerWays() {
        // Kba is reached at 5 from a and b, before it is reached at 4 by e, which is found later than a and b.
        Supplier<DeductionDesk> later = () -> Desks.proving("KKabKcd", "Cce", "CeKba");
        CHECK.distance("a nearer way that is found later", later, "Kba", 4);
        CHECK.distance("what is found from it", later, "AdKba", 3);
        CHECK.distance("what is found from it alone", later, "AAFKbaF", 6);
        CHECK.distance("ways of the same length", () -> Desks.proving("NNNNNNa", "KKKbccc", "CbAab"), "Aab", 4);
        CHECK.distance("a longer way that is found later", () -> Desks.proving("KKKabcd", "CcCda"), "a", 3);
        CHECK.distance("falsum at last", () -> Desks.proving("NKab", "a", "KKbcd"), "e", 5);
        // Where Kba moves forward, KcKab stands before it at 4, and Kbb and KbKbb behind it at 5 and 8.
        CHECK.distance("from one before", () -> Desks.proving("KKabKcd", "Cce", "CeKba", "CKcKabNc"), "Nc", 5);
        CHECK.distance("from the next one", () -> Desks.proving("KKabKcd", "Cce", "CeKba", "CKbbNb"), "Nb", 6);
        CHECK.distance("from the last one", () -> Desks.proving("KKabKcd", "Cce", "CeKba", "CKbKbbNa"), "Na", 9);
        String[] goals = {"Aac", "Aca", "AAaca", "Kaa", "KaNNa", "KNNaa", "AcKaa"};
        int[] due = {2, 2, 2, 3, 2, 2, 4};
        for (int i = 0; i < due.length; i++) {
            String goal = goals[i];
            CHECK.distance("a goal that is known before the line", () -> {
                DeductionDesk x = Desks.with(goal);
                x.premise(Desks.make(x, "NNa"));
                return x;
            }, goal, due[i]);
        }
        testOneProofAfterTheOther();
    }

    /** What has been found for a proof tells nothing of the next one. */
    private static void testOneProofAfterTheOther() {
        DeductionDesk desk = chainAgainstNumbers();
        CHECK.same("a far goal", desk.distance(2), 59);
        CHECK.same("a near goal", desk.distance(60), 1);
        desk.newProof();
        CHECK.same("no lines", Check.outcomeOf(desk, x -> x.distance(2)), 'N');
        for (int line = 0; line < 59; line++) {
            desk.premise(62 + line);
        }
        CHECK.same("without the chain's end", Check.outcomeOf(desk, x -> x.distance(2)), 'N');
        desk.premise(32);
        CHECK.same("from the middle of the chain", desk.distance(2), 30);
        CHECK.same("behind the middle", Check.outcomeOf(desk, x -> x.distance(33)), 'N');
        desk.newProof();
        desk.premise(desk.negation(desk.negation(0)));
        CHECK.same("a shorter proof", desk.distance(0), 1);
        CHECK.same("what is not found in it", Check.outcomeOf(desk, x -> x.distance(2)), 'N');
        CHECK.same("an implication of it", Check.outcomeOf(desk, x -> x.distance(70)), 'N');
    }

    // ---- normal forms

    /** Returns the number of the only formula that is made with all its parts. */
    private static int last(String formula) {
        return Desks.with(formula).formulas() - 1;
    }

    /** The outcomes with a, b, Cab, Na and ANab, and with the first formulas of a chain of negations. */
    private static void noFormula(String five, String chain, BiConsumer<DeductionDesk, Integer> call) {
        CHECK.outcomes("none", DeductionDesk::new, -1, "II", call);
        CHECK.outcomes("five formulas", () -> Desks.with("a", "b", "Cab", "ANab"), -1, "I" + five + "I", call);
        CHECK.outcomes("150 negations", () -> Desks.fillFormulas(new DeductionDesk()), -1,
                "I" + (chain + ".".repeat(28)).repeat(5) + "I", call);
    }

    private static void testNormalStep() {
        EDGES.section("Promise 42: normalStep");
        EDGES.noEdge("Makes the formula that one step toward the normal form gives.", FORMULA);
        EDGES.sentence("Returns the number of the formula behind the step.", () -> {
            CHECK.same("one that is known", Desks.with("NNa").normalStep(2), 0);
            CHECK.same("one that is known, behind it", Desks.with("Cab", "ANab").normalStep(2), 4);
            CHECK.same("one that becomes known", Desks.with("Cab").normalStep(2), 4);
            CHECK.same("the 150th formula", Desks.fillWith(Desks.with("Cab"), 4, 148).normalStep(2), 149);
            CHECK.same("one of 150", Desks.fillFormulas(new DeductionDesk()).normalStep(149), 147);
        });
        EDGES.sentence(NO_FORMULA, () -> noFormula("NN.NN", "NN", (x, n) -> x.normalStep(n)));
        EDGES.sentence("Throws `NoSuchElementException` if no step applies", () -> {
            for (String each : NORMAL) {
                CHECK.outcome(each, 'N', () -> Desks.with(each), x -> x.normalStep(last(each)));
                CHECK.outcome(each + " among 150", 'N', () -> Desks.fillWith(Desks.with(each), 3, 150),
                        x -> x.normalStep(last(each)));
            }
            for (String each : NOT_NORMAL) {
                CHECK.outcome(each, '.', () -> Desks.with(each), x -> x.normalStep(last(each)));
            }
        });
        EDGES.sentence("Throws `IllegalStateException` if the formula behind the step cannot be made", () -> {
            CHECK.outcome("size 31", 'S', () -> Desks.with(SHRINKING), x -> x.normalStep(last(SHRINKING)));
            CHECK.outcome("size 31", 'S', () -> Desks.with(GROWING), x -> x.normalStep(last(GROWING)));
            String fitting = "N" + "Ka".repeat(12) + "KaNa";
            CHECK.outcome("size 30 behind 29", '.', () -> Desks.with(fitting), x -> x.normalStep(last(fitting)));
            String less = "NN" + "Ka".repeat(13) + "Na";
            CHECK.outcome("size 28 behind 30", '.', () -> Desks.with(less), x -> x.normalStep(last(less)));
            CHECK.room(2, () -> Desks.with("Cab"), x -> x.normalStep(2));
            CHECK.room(3, () -> Desks.with("NAab"), x -> x.normalStep(3));
            CHECK.room(1, () -> Desks.with("KNNaNb"), x -> x.normalStep(5));
        });
    }

    private static void testNormalSteps() {
        EDGES.section("Promise 43: normalSteps");
        EDGES.sentence("Returns the number of steps to the normal form; no formula is made.", () -> {
            for (String each : NOT_NORMAL) {
                DeductionDesk desk = Desks.with(each);
                desk.normalSteps(last(each));
                CHECK.same("formulas", desk.formulas(), last(each) + 1);
            }
            CHECK.same("among 150", Desks.fillWith(Desks.with("NKKabc"), 4, 150).normalSteps(5), 2);
            CHECK.same("sizes above 30", Desks.with(GROWING).normalSteps(last(GROWING)), 14);
        });
        EDGES.noEdge(FORMULA);
        EDGES.sentence("Returns the number of steps.", () -> {
            for (String each : NORMAL) {
                CHECK.same("none for " + each, Desks.with(each).normalSteps(last(each)), 0);
            }
            CHECK.same("one", Desks.with("Cab").normalSteps(2), 1);
            CHECK.same("29 negations", Desks.with("N".repeat(29) + "a").normalSteps(29), 14);
            CHECK.same("28 negations", Desks.with("N".repeat(28) + "a").normalSteps(28), 14);
            String most = "N" + "Ca".repeat(14) + "a";
            CHECK.same("an implication, a negation and a double negation for each C", steps(most), 42);
            CHECK.same("the same to the left", steps("N" + "C".repeat(14) + "a".repeat(15)), 28);
            CHECK.same("no negation in front", steps("Ca".repeat(14) + "a"), 14);
            CHECK.same("negations of disjunctions", steps("N" + "Aa".repeat(14) + "a"), 14);
            CHECK.same("the same part twice", steps("KCabCab"), 2);
        });
        EDGES.sentence(NO_FORMULA, () -> noFormula(".....", "..", (x, n) -> x.normalSteps(n)));
    }

    private static int steps(String formula) {
        return Desks.with(formula).normalSteps(last(formula));
    }

    private static void testNormalForm() {
        EDGES.section("Promise 44: normalForm");
        EDGES.sentence("Makes the normal form of a formula; the formulas between the steps are not made.", () -> {
            DeductionDesk desk = Desks.with("NKKabc");
            desk.normalForm(5);
            CHECK.same("Na, Nb, ANaNb, Nc and the form", desk.formulas(), 11);
            DeductionDesk chain = Desks.with("NNNNNNNb", "KaNNNNb");
            int before = chain.formulas();
            chain.normalForm(before - 1);
            CHECK.same("the form alone", chain.formulas(), before + 1);
            DeductionDesk large = Desks.with(SHRINKING);
            CHECK.same("a size of 31 between", Desks.symbols(large, large.normalForm(last(SHRINKING))), "KANabNa");
            CHECK.room(5, () -> Desks.with("NKKabc"), x -> x.normalForm(5));
        });
        EDGES.noEdge(FORMULA);
        EDGES.sentence("Returns the number of the normal form.", () -> {
            for (String each : NORMAL) {
                DeductionDesk desk = Desks.with(each);
                CHECK.same("its own number", desk.normalForm(last(each)), last(each));
                CHECK.same("no formula is made", desk.formulas(), last(each) + 1);
            }
            CHECK.same("one that is known", Desks.with("NNNa").normalForm(3), 1);
            CHECK.same("one that becomes known", Desks.with("NKab").normalForm(3), 6);
            CHECK.same("the 150th", Desks.fillWith(Desks.with("NKab"), 4, 147).normalForm(3), 149);
            CHECK.same("itself, the last of 150", Desks.fillWith(Desks.with("KaNb"), 4, 150).normalForm(3), 3);
        });
        EDGES.sentence(NO_FORMULA, () -> noFormula(".....", "..", (x, n) -> x.normalForm(n)));
        EDGES.sentence("Throws `IllegalStateException` if the normal form cannot be made", () -> {
            String thirty = "AN" + "Ka".repeat(8) + "aAbb";
            String more = "AN" + "Ka".repeat(8) + "aAbNb";
            CHECK.outcome("size 30", '.', () -> Desks.with(thirty), x -> x.normalForm(last(thirty)));
            CHECK.outcome("size 31", 'S', () -> Desks.with(more), x -> x.normalForm(last(more)));
            CHECK.outcome("size 44", 'S', () -> Desks.with(GROWING), x -> x.normalForm(last(GROWING)));
            String widest = "C".repeat(14) + "a".repeat(15);
            CHECK.outcome("a long row", 'S', () -> Desks.with(widest), x -> x.normalForm(last(widest)));
            CHECK.room(3, () -> Desks.with("NKab"), x -> x.normalForm(3));
            CHECK.room(1, () -> Desks.with("KNNaNNb"), x -> x.normalForm(6));
            CHECK.outcome("in normal form among 150", '.', full("ANab"), x -> x.normalForm(3));
        });
    }
}
