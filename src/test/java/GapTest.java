import java.util.NoSuchElementException;
import java.util.function.Supplier;

/** Promises 40 to 44: distances and normal forms. */
public final class GapTest {
    private static final Class<?> INDEX = IndexOutOfBoundsException.class;
    private static final Class<?> NO_SUCH = NoSuchElementException.class;
    private static final Class<?> STATE = IllegalStateException.class;
    private static final int NONE = -1;
    private static final Check CHECK = new Check("GapTest");

    private GapTest() {
    }

    public static void main(String[] args) {
        testDistances();
        testDistancesOfBoxes();
        testDistancesInView();
        testGreatDistances();
        testDistancesRefused();
        testNormalForms();
        testNormalStepsOneByOne();
        testNewFormulas();
        testNormalFormsRefused();
        testLargeNormalForms();
        CHECK.end();
    }

    private static void distance(String what, DeductionDesk desk, String goal, int due) {
        int formula = Desks.make(desk, goal);
        CHECK.same("promise 40: " + what + ", to " + goal, ask(desk, formula, false), due);
        CHECK.same("promise 41: " + what + ", to " + goal, ask(desk, formula, true), due);
    }

    private static int ask(DeductionDesk desk, int formula, boolean isByRounds) {
        try {
            return isByRounds ? desk.distanceByRounds(formula) : desk.distance(formula);
        } catch (NoSuchElementException e) {
            return NONE;
        }
    }

    private static void testDistances() {
        DeductionDesk desk = Desks.proving("Kab", "Ccd", "CbCae");
        distance("a line", desk, "Kab", 0);
        distance("the left formula", desk, "a", 1);
        distance("the right formula", desk, "b", 1);
        distance("an implication of an implication", desk, "e", 4);
        distance("the inner implication", desk, "Cae", 2);
        distance("a conjunction", desk, "KKabKab", 1);
        distance("a conjunction of the same twice", desk, "Kaa", 3);
        distance("a conjunction of the same twice, twice", desk, "KKaaKaa", 7);
        distance("a disjunction by its left formula", desk, "Aac", 2);
        distance("a disjunction by its right formula", desk, "ACdda", 2);
        distance("a disjunction by the nearer one", desk, "AeKab", 1);
        distance("a disjunction by the nearer one", desk, "AKabe", 1);
        distance("a disjunction of a far one", desk, "Aec", 5);
        distance("a missing letter", desk, "c", NONE);
        distance("an implication without its left formula", desk, "d", NONE);
        distance("an implication is not made", desk, "Cdb", NONE);
        distance("a negation is not made", desk, "Nc", NONE);
        distance("falsum", desk, "F", NONE);
        distance("a conjunction of a missing one", desk, "Kac", NONE);
        distance("a disjunction of missing ones", desk, "Acd", NONE);
        distance("a disjunction is not used", Desks.proving("Aaa"), "a", NONE);

        // Kba is reached at 5 from a and b, before it is reached at 4 by e, which is found later than a, b and c.
        distance("a nearer way that is found later", Desks.proving("KKabKcd", "Cce", "CeKba"), "Kba", 4);

        DeductionDesk doubled = Desks.proving("NNa", "NNNb");
        distance("a double negation", doubled, "a", 1);
        distance("a double negation of a negation", doubled, "Nb", 1);
        distance("a negation is not doubled", doubled, "NNNNb", NONE);
        distance("one negation is not two", Desks.proving("Na"), "a", NONE);
    }

    private static void testDistancesOfBoxes() {
        DeductionDesk desk = Desks.proving("Cab");
        desk.assume(Desks.make(desk, "a"));
        distance("from an assumption", desk, "b", 1);
        desk.closeBox();
        distance("not from a closed box", desk, "b", NONE);
        distance("not from a closed box", desk, "a", NONE);
        desk.premise(Desks.make(desk, "a"));
        distance("from a line like that of a closed box", desk, "b", 1);
        desk.newProof();
        distance("not from the proof before", desk, "a", NONE);
    }

    private static void testDistancesInView() {
        DeductionDesk desk = Desks.proving("Na", "Kaa");
        CHECK.same("promise 40: falsum is not known", desk.formulas(), 3);
        int other = desk.letter(3);
        CHECK.same("promise 40: by falsum, which is not known", desk.distance(other), 3);
        CHECK.same("promise 41: by falsum, which is not known", desk.distanceByRounds(other), 3);
        CHECK.same("promise 40: falsum has not become known", desk.formulas(), 4);
        distance("falsum itself", desk, "F", 2);
        distance("by falsum, which is known", desk, "Cbc", 3);
        distance("nearer than by falsum", desk, "a", 1);
        DeductionDesk full = Desks.fillFormulas(Desks.proving("NNNa", "a", "KNaNa"));
        CHECK.same("promise 40: 150 formulas without falsum", full.formulas(), 150);
        CHECK.same("promise 40: by falsum beside 150", full.distance(149), 3);
        CHECK.same("promise 41: by falsum beside 150", full.distanceByRounds(149), 3);
        DeductionDesk falsehood = Desks.proving("F");
        distance("falsum is a line", falsehood, "F", 0);
        distance("from falsum", falsehood, "Kab", 1);
        distance("from falsum", falsehood, "c", 1);
        distance("falsum by an implication", Desks.proving("CaF", "a"), "b", 2);
        distance("falsum by a negation of falsum", Desks.proving("NF"), "b", NONE);

        DeductionDesk known = Desks.proving("a", "CbCAabc");
        Desks.make(known, "CaKad");
        distance("a formula that is known, but not in view", known, "d", NONE);
        distance("a part of a part of a line is in view", known, "Aab", 1);
        distance("a part of a line that cannot be reached", known, "c", NONE);
        known.premise(Desks.make(known, "b"));
        distance("a part in view on the way", known, "c", 3);
        distance("parts of the goal are in view", known, "KdAaKbc", NONE);
        distance("parts of the goal are in view", known, "KAdAdaa", 3);
    }

    private static void testGreatDistances() {
        String steps = "dd+d+d+dddd+ddd";
        distance("a great one", Desks.chain(steps), "CeCeCeb", 4998);
        distance("9997 by the same twice", Desks.chain(steps), "KCeCeCebCeCeCeb", 9997);
        distance("9998", Desks.chain(steps + "d"), "CeCeCec", 9998);
        distance("9999", Desks.chain(steps + "d+"), "CeCeCed", 9999);
        distance("9999 by a conjunction", Desks.chain(steps + "d"), "KCeCeCeca", 9999);
        distance("9999 by a disjunction", Desks.chain(steps + "d"), "ACeCeCece", 9999);
        distance("10000", Desks.chain(steps + "d++"), "CeCeCee", NONE);
        distance("10000 by a conjunction", Desks.chain(steps + "d+"), "KCeCeCeda", NONE);
        distance("10000 by a disjunction", Desks.chain(steps + "d+"), "ACeCeCede", NONE);
        distance("19999", Desks.chain(steps + "d+"), "KCeCeCedCeCeCed", NONE);
        distance("far beyond", Desks.chain("dddddddddddddddddd"), "CeCeCee", NONE);
        distance("a nearer way beside a great one", Desks.chain(steps + "d++"), "AaCeCeCee", 1);
    }

    private static void testDistancesRefused() {
        Supplier<DeductionDesk> prepare = () -> Desks.proving("a", "Cbc");
        for (int odd : new int[] {-1, 4, 150, 151, Integer.MIN_VALUE, Integer.MAX_VALUE}) {
            CHECK.refuses("promise 40: formula " + odd, INDEX, prepare, x -> x.distance(odd));
            CHECK.refuses("promise 41: formula " + odd, INDEX, prepare, x -> x.distanceByRounds(odd));
        }
        CHECK.refuses("promise 40: none", NO_SUCH, prepare, x -> x.distance(2));
        CHECK.refuses("promise 41: none", NO_SUCH, prepare, x -> x.distanceByRounds(2));
        CHECK.refuses("promise 40: no lines", NO_SUCH, () -> Desks.with("F"), x -> x.distance(0));
        CHECK.refuses("promise 41: no lines", NO_SUCH, () -> Desks.with("F"), x -> x.distanceByRounds(0));
    }

    /** A formula, what one step gives (nothing if none applies), the number of steps and the normal form. */
    private static final String[][] FORMS = {
        {"a", "", "0", "a"}, {"F", "", "0", "F"}, {"NF", "", "0", "NF"}, {"KNaANbF", "", "0", "KNaANbF"},
        {"Cab", "ANab", "1", "ANab"}, {"NNa", "a", "1", "a"}, {"NNNa", "Na", "1", "Na"},
        {"NNNNa", "NNa", "2", "a"}, {"NNF", "F", "1", "F"}, {"NKab", "ANaNb", "1", "ANaNb"},
        {"NAab", "KNaNb", "1", "KNaNb"}, {"NCab", "NANab", "3", "KaNb"}, {"CaF", "ANaF", "1", "ANaF"},
        {"NNCab", "Cab", "2", "ANab"}, {"NKNaNb", "ANNaNNb", "3", "Aab"}, {"KCabCab", "KANabCab", "2", "KANabANab"},
        {"KaCab", "KaANab", "1", "KaANab"}, {"KNNaNNa", "KaNNa", "2", "Kaa"}, {"NKKabc", "ANKabNc", "2", "AANaNbNc"},
        {"NKaAbc", "ANaNAbc", "2", "ANaKNbNc"}, {"NAKabNc", "KNKabNNc", "3", "KANaNbc"},
        {"CCabc", "ANCabc", "4", "AKaNbc"}, {"CaCbc", "ANaCbc", "2", "ANaANbc"}, {"CNab", "ANNab", "2", "Aab"},
        {"NCCabNc", "NANCabNc", "5", "KANabc"}, {"NNKab", "Kab", "1", "Kab"}, {"NKNKabc", "ANNKabNc", "2", "AKabNc"},
        {"NACabd", "KNCabNd", "4", "KKaNbNd"}, {"KANKabcNNd", "KAANaNbcNNd", "2", "KAANaNbcd"},
        {"NCFNF", "NANFNF", "4", "KFF"}};

    private static void testNormalForms() {
        for (String[] each : FORMS) {
            DeductionDesk desk = Desks.with(each[0]);
            int formula = Desks.make(desk, each[0]);
            int before = desk.formulas();
            CHECK.same("promise 43: steps of " + each[0], desk.normalSteps(formula), Integer.parseInt(each[2]));
            CHECK.same("promise 43: no formula is made of " + each[0], desk.formulas(), before);
            CHECK.same("promise 44: the form of " + each[0], Desks.symbols(desk, desk.normalForm(formula)), each[3]);
            if (each[1].isEmpty()) {
                CHECK.refuses("promise 42: no step of " + each[0], NO_SUCH, () -> Desks.with(each[0]),
                        x -> x.normalStep(formula));
                CHECK.same("promise 44: it is its own form", desk.normalForm(formula), formula);
                CHECK.same("promise 44: no formula is made of " + each[0], desk.formulas(), before);
            } else {
                CHECK.same("promise 42: a step of " + each[0], Desks.symbols(desk, desk.normalStep(formula)), each[1]);
            }
        }
    }

    private static void testNormalStepsOneByOne() {
        for (String[] each : FORMS) {
            DeductionDesk desk = Desks.with(each[0]);
            int formula = Desks.make(desk, each[0]);
            int steps = desk.normalSteps(formula);
            for (int left = steps - 1; left >= 0; left--) {
                formula = desk.normalStep(formula);
                CHECK.same("promise 43: the rest of " + each[0], desk.normalSteps(formula), left);
            }
            CHECK.same("promise 42: the last step of " + each[0], Desks.symbols(desk, formula), each[3]);
        }
    }

    private static void testNewFormulas() {
        DeductionDesk step = Desks.with("NKKabc");
        int before = step.formulas();
        step.normalStep(before - 1);
        String[] due = {"NKab", "Nc", "ANKabNc"};
        CHECK.same("promise 42: three new formulas", step.formulas(), before + 3);
        for (int i = 0; i < 3; i++) {
            CHECK.same("promise 42: the left one first", Desks.symbols(step, before + i), due[i]);
        }
        DeductionDesk form = Desks.with("NKKabc");
        form.normalForm(before - 1);
        String[] all = {"Na", "Nb", "ANaNb", "Nc", "AANaNbNc"};
        CHECK.same("promise 44: five new formulas", form.formulas(), before + 5);
        for (int i = 0; i < 5; i++) {
            CHECK.same("promise 44: none between the steps", Desks.symbols(form, before + i), all[i]);
        }
    }

    private static void testNormalFormsRefused() {
        for (int odd : new int[] {-1, 3, Integer.MIN_VALUE, Integer.MAX_VALUE}) {
            CHECK.refuses("promise 42: formula " + odd, INDEX, () -> Desks.with("Cab"), x -> x.normalStep(odd));
            CHECK.refuses("promise 43: formula " + odd, INDEX, () -> Desks.with("Cab"), x -> x.normalSteps(odd));
            CHECK.refuses("promise 44: formula " + odd, INDEX, () -> Desks.with("Cab"), x -> x.normalForm(odd));
        }
        Supplier<DeductionDesk> full = () -> Desks.fillFormulas(Desks.with("Cab"));
        CHECK.refuses("promise 42: the 151st formula", STATE, full, x -> x.normalStep(2));
        CHECK.refuses("promise 44: the 151st formula", STATE, full, x -> x.normalForm(2));
        CHECK.same("promise 43: among 150 formulas", full.get().normalSteps(2), 1);
        CHECK.refuses("promise 42: no step, among 150 formulas", NO_SUCH, full, x -> x.normalStep(0));
        CHECK.same("promise 44: known among 150 formulas", full.get().normalForm(149), 121);
    }

    private static void testLargeNormalForms() {
        String growing = "KCab" + "N".repeat(25) + "a";
        Supplier<DeductionDesk> large = () -> Desks.with(growing);
        int formula = large.get().formulas() - 1;
        CHECK.same("promise 43: a formula of size 30", large.get().sizeOf(formula), 30);
        CHECK.refuses("promise 42: size 31 behind the step", STATE, large, x -> x.normalStep(formula));
        CHECK.same("promise 43: more than 30 between the steps", large.get().normalSteps(formula), 13);
        DeductionDesk desk = large.get();
        CHECK.same("promise 44: more than 30 between the steps", Desks.symbols(desk, desk.normalForm(formula)),
                "KANabNa");
        // 14 connectives in a row, with a negation in front of them: its form has 44 symbols.
        String row = "N" + "Ka".repeat(14) + "a";
        Supplier<DeductionDesk> wide = () -> Desks.with(row);
        int last = wide.get().formulas() - 1;
        CHECK.same("promise 43: a form of 44 symbols", wide.get().normalSteps(last), 14);
        CHECK.refuses("promise 42: a form of 44 symbols", STATE, wide, x -> x.normalStep(last));
        CHECK.refuses("promise 44: a form of 44 symbols", STATE, wide, x -> x.normalForm(last));
        // The left part gets 26 symbols: 8 connectives and 9 negated letters.
        DeductionDesk thirty = Desks.with("AN" + "Ka".repeat(8) + "aAbb");
        int form = thirty.normalForm(thirty.formulas() - 1);
        CHECK.same("promise 44: a form of size 30", thirty.sizeOf(form), 30);
        Supplier<DeductionDesk> more = () -> Desks.with("AN" + "Ka".repeat(8) + "aAbNb");
        int more31 = more.get().formulas() - 1;
        CHECK.refuses("promise 44: a form of size 31", STATE, more, x -> x.normalForm(more31));
        CHECK.same("promise 43: a form of size 31", more.get().normalSteps(more31), 8);
        largeImplications("N" + "Ca".repeat(14) + "a", 42, "Ka".repeat(14) + "Na");
        largeImplications("N" + "C".repeat(14) + "a".repeat(15), 28, "");
        largeImplications("C".repeat(14) + "a".repeat(15), 28, "");
    }

    private static void largeImplications(String symbols, int steps, String form) {
        DeductionDesk desk = Desks.with(symbols);
        int formula = desk.formulas() - 1;
        CHECK.same("promise 43: steps of " + symbols, desk.normalSteps(formula), steps);
        if (!form.isEmpty()) {
            CHECK.same("promise 44: the form of " + symbols, Desks.symbols(desk, desk.normalForm(formula)), form);
        }
    }
}
