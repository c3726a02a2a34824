import java.util.function.Consumer;
import java.util.function.Supplier;

/** All exceptions of all calls: each one where no other applies, and each one where the later ones apply, too. */
final class Stairs {
    private final Check check;
    private final String desk;
    private final Supplier<DeductionDesk> prepare;

    private Stairs(Check check, String desk, Supplier<DeductionDesk> prepare) {
        this.check = check;
        this.desk = desk;
        this.prepare = prepare;
    }

    private void on(String call, char due, Consumer<DeductionDesk> send) {
        check.outcome(call + " on a desk with " + desk, due, prepare, send);
    }

    /** The workshop with box 3, which is open, begins with line 13 and has the result a; formula 8 is c. */
    private static DeductionDesk openWorkshop() {
        DeductionDesk desk = Desks.workshop();
        desk.assume(1);
        return desk;
    }

    private static DeductionDesk fullOfFormulas() {
        return Desks.fillWith(openWorkshop(), 4, 150);
    }

    private static DeductionDesk fullOfLines() {
        return Desks.fillLines(openWorkshop(), 4);
    }

    private static DeductionDesk crowded() {
        return Desks.fillLines(fullOfFormulas(), 4);
    }

    private static DeductionDesk closedAndCrowded() {
        return Desks.fillLines(Desks.fillWith(Desks.workshop(), 4, 150), 0);
    }

    /** A desk with 8 lemmas, and then with some premises in a new proof. */
    private static DeductionDesk eightLemmas(int premises) {
        DeductionDesk desk = Desks.proving("a");
        for (int i = 0; i < 8; i++) {
            desk.keepLemma();
        }
        desk.newProof();
        for (int i = 0; i < premises; i++) {
            desk.premise(0);
        }
        return desk;
    }

    static void testEachExceptionAlone(Check check) {
        Stairs roomy = new Stairs(check, "room for all", Stairs::openWorkshop);
        indexesOfFormulas(roomy, 9);
        indexesOfLines(roomy, 14, 9);
        roomy.on("letter", 'A', x -> x.letter(-1));
        roomy.on("symbolAt", 'N', x -> x.symbolAt(0, 1));
        roomy.on("bind", 'A', x -> x.bind(5, 0));
        roomy.on("premise", 'U', x -> x.premise(0));
        roomy.on("repeat", 'N', x -> x.repeat(7));
        roomy.on("makeConjunction", 'N', x -> x.makeConjunction(7, 0));
        roomy.on("makeConjunction", 'N', x -> x.makeConjunction(0, 7));
        roomy.on("makeDisjunction", 'N', x -> x.makeDisjunction(7, 0, true));
        roomy.on("useConjunction", 'U', x -> x.useConjunction(1, false));
        roomy.on("useDisjunction", 'N', x -> x.useDisjunction(1, 3, 1));
        roomy.on("useDisjunction", 'U', x -> x.useDisjunction(1, 2, 1));
        roomy.on("makeImplication", 'N', x -> x.makeImplication(3));
        roomy.on("useImplication", 'N', x -> x.useImplication(3, 7));
        roomy.on("useImplication", 'U', x -> x.useImplication(3, 5));
        roomy.on("makeNegation", 'U', x -> x.makeNegation(0));
        roomy.on("useNegation", 'N', x -> x.useNegation(5, 7));
        roomy.on("useNegation", 'U', x -> x.useNegation(6, 4));
        roomy.on("fromFalsum", 'N', x -> x.fromFalsum(12, 0));
        roomy.on("fromFalsum", 'U', x -> x.fromFalsum(1, 0));
        roomy.on("doubleNegation", 'U', x -> x.doubleNegation(5));
        roomy.on("keepLemma in a box", 'U', x -> x.keepLemma());
        roomy.on("useLemma", 'N', x -> x.useLemma(0, 12, 0));
        roomy.on("useLemma", 'U', x -> x.useLemma(0, 1, 0));
        roomy.on("normalStep", 'N', x -> x.normalStep(0));

        Stairs empty = new Stairs(check, "nothing", DeductionDesk::new);
        empty.on("closeBox", 'S', x -> x.closeBox());
        empty.on("keepLemma", 'N', x -> x.keepLemma());
        empty.on("needed", 'N', x -> x.needed());
        empty.on("meanSize", 'M', x -> x.meanSize());
        Stairs letter = new Stairs(check, "a letter", () -> Desks.with("a"));
        letter.on("distance", 'N', x -> x.distance(0));
        letter.on("distanceByRounds", 'N', x -> x.distanceByRounds(0));
        new Stairs(check, "8 lemmas", () -> eightLemmas(1)).on("keepLemma", 'S', x -> x.keepLemma());
        new Stairs(check, "three premises", () -> Desks.proving("a", "a", "a")).on("keepLemma", 'U',
                x -> x.keepLemma());

        Stairs sixty = new Stairs(check, "60 lines", Stairs::fullOfLines);
        for (int i = 1; i < Desks.ENTERING.size(); i++) {
            sixty.on("entering call " + i, 'S', Desks.ENTERING.get(i));
        }
        new Stairs(check, "60 lines and no box", () -> Desks.fillLines(Desks.proving("a"), 0)).on("premise", 'S',
                x -> x.premise(0));
        withoutRoom(new Stairs(check, "150 formulas", Stairs::fullOfFormulas));
    }

    private static void withoutRoom(Stairs full) {
        full.on("letter", 'S', x -> x.letter(3));
        full.on("negation", 'S', x -> x.negation(5));
        full.on("conjunction", 'S', x -> x.conjunction(1, 1));
        full.on("disjunction", 'S', x -> x.disjunction(1, 1));
        full.on("implication", 'S', x -> x.implication(1, 1));
        full.on("makeConjunction", 'S', x -> x.makeConjunction(4, 4));
        full.on("makeDisjunction", 'S', x -> x.makeDisjunction(4, 1, false));
        full.on("makeImplication", 'S', x -> x.makeImplication(0));
        full.on("normalStep", 'S', x -> x.normalStep(5));
        full.on("normalForm", 'S', x -> x.normalForm(5));
        Check check = full.check;
        check.outcome("falsum without room", 'S', () -> Desks.fillWith(Desks.with("a"), 4, 150), x -> x.falsum());
        check.outcome("useNegation without room", 'S', () -> Desks.fillWith(Desks.proving("Na", "a"), 4, 150),
                x -> x.useNegation(0, 1));
        check.outcome("makeNegation without room", 'S', () -> Desks.fillWith(Desks.closed(Desks.proving("a"), "F"),
                4, 150), x -> x.makeNegation(0));
        check.outcome("useLemma without room", 'S', () -> {
            DeductionDesk x = Desks.proving("F");
            x.fromFalsum(0, Desks.make(x, "Na"));
            x.keepLemma();
            x.bind(0, Desks.make(x, "b"));
            return Desks.fillWith(x, 4, 150);
        }, x -> x.useLemma(0, 0, 0));
    }

    /** No formula has this number. */
    private static void indexesOfFormulas(Stairs stairs, int none) {
        stairs.on("negation", 'I', x -> x.negation(none));
        stairs.on("conjunction", 'I', x -> x.conjunction(none, 1));
        stairs.on("conjunction", 'I', x -> x.conjunction(1, none));
        stairs.on("disjunction", 'I', x -> x.disjunction(none, 1));
        stairs.on("disjunction", 'I', x -> x.disjunction(1, none));
        stairs.on("implication", 'I', x -> x.implication(none, 1));
        stairs.on("implication", 'I', x -> x.implication(1, none));
        stairs.on("sizeOf", 'I', x -> x.sizeOf(none));
        stairs.on("symbolAt", 'I', x -> x.symbolAt(none, 0));
        stairs.on("bind", 'I', x -> x.bind(0, none));
        stairs.on("premise", 'I', x -> x.premise(none));
        stairs.on("assume", 'I', x -> x.assume(none));
        stairs.on("distance", 'I', x -> x.distance(none));
        stairs.on("distanceByRounds", 'I', x -> x.distanceByRounds(none));
        stairs.on("normalStep", 'I', x -> x.normalStep(none));
        stairs.on("normalSteps", 'I', x -> x.normalSteps(none));
        stairs.on("normalForm", 'I', x -> x.normalForm(none));
        stairs.on("models", 'I', x -> x.models(none));
        stairs.on("modelsByRows", 'I', x -> x.modelsByRows(none));
        stairs.on("follows", 'I', x -> x.follows(none));
        stairs.on("share", 'I', x -> x.share(none));
    }

    /** No line and no formula has these numbers; there are boxes 0 to 3 and lemma 0. */
    private static void indexesOfLines(Stairs stairs, int none, int noFormula) {
        stairs.on("repeat", 'I', x -> x.repeat(none));
        stairs.on("makeConjunction", 'I', x -> x.makeConjunction(none, 0));
        stairs.on("makeConjunction", 'I', x -> x.makeConjunction(0, none));
        stairs.on("useConjunction", 'I', x -> x.useConjunction(none, true));
        stairs.on("makeDisjunction", 'I', x -> x.makeDisjunction(none, 0, true));
        stairs.on("makeDisjunction", 'I', x -> x.makeDisjunction(0, noFormula, true));
        stairs.on("useDisjunction", 'I', x -> x.useDisjunction(none, 0, 1));
        stairs.on("useDisjunction", 'I', x -> x.useDisjunction(1, 4, 1));
        stairs.on("useDisjunction", 'I', x -> x.useDisjunction(1, 0, 4));
        stairs.on("makeImplication", 'I', x -> x.makeImplication(4));
        stairs.on("useImplication", 'I', x -> x.useImplication(none, 4));
        stairs.on("useImplication", 'I', x -> x.useImplication(3, none));
        stairs.on("makeNegation", 'I', x -> x.makeNegation(4));
        stairs.on("useNegation", 'I', x -> x.useNegation(none, 4));
        stairs.on("useNegation", 'I', x -> x.useNegation(5, none));
        stairs.on("fromFalsum", 'I', x -> x.fromFalsum(none, 0));
        stairs.on("fromFalsum", 'I', x -> x.fromFalsum(0, noFormula));
        stairs.on("doubleNegation", 'I', x -> x.doubleNegation(none));
        stairs.on("useLemma", 'I', x -> x.useLemma(1, 0, 0));
        stairs.on("useLemma", 'I', x -> x.useLemma(0, none, 0));
        stairs.on("conclusionOf", 'I', x -> x.conclusionOf(1));
        stairs.on("formulaOf", 'I', x -> x.formulaOf(none));
        stairs.on("ruleOf", 'I', x -> x.ruleOf(none));
        stairs.on("depthOf", 'I', x -> x.depthOf(none));
        stairs.on("canCite", 'I', x -> x.canCite(none));
        stairs.on("canCiteBox", 'I', x -> x.canCiteBox(4));
        stairs.on("resultOf", 'I', x -> x.resultOf(4));
        stairs.on("isSound", 'I', x -> x.isSound(none));
    }

    /** Of each call, the exceptions in their order, each one while as many of the later ones as can be apply. */
    static void testSeveralExceptions(Check check) {
        Stairs crowded = new Stairs(check, "60 lines, 150 formulas and an open box", Stairs::crowded);
        indexesOfFormulas(crowded, 150);
        indexesOfLines(crowded, 60, 150);
        formulasInOrder(crowded);
        conjunctionsAndDisjunctionsInOrder(crowded);
        implicationsAndNegationsInOrder(crowded);
        Stairs closed = new Stairs(check, "60 lines, 150 formulas and no open box", Stairs::closedAndCrowded);
        closed.on("premise, no formula", 'I', x -> x.premise(150));
        closed.on("premise", 'S', x -> x.premise(0));
        lemmasInOrder(crowded, check);
    }

    private static void formulasInOrder(Stairs crowded) {
        crowded.on("letter, no letter", 'A', x -> x.letter(5));
        crowded.on("letter, no room", 'S', x -> x.letter(3));
        crowded.on("symbolAt, no formula and no symbol", 'I', x -> x.symbolAt(150, -1));
        crowded.on("symbolAt, no symbol", 'N', x -> x.symbolAt(0, -1));
        crowded.on("bind, no letter and no formula", 'A', x -> x.bind(5, 150));
        crowded.on("bind, no formula", 'I', x -> x.bind(4, 150));
        crowded.on("premise, in a box", 'U', x -> x.premise(0));
        crowded.on("assume, no room", 'S', x -> x.assume(0));
        crowded.on("normalStep, no step", 'N', x -> x.normalStep(0));
        crowded.on("normalStep, no room", 'S', x -> x.normalStep(5));
        crowded.on("normalForm, no room", 'S', x -> x.normalForm(5));
    }

    private static void conjunctionsAndDisjunctionsInOrder(Stairs crowded) {
        crowded.on("repeat, not cited", 'N', x -> x.repeat(7));
        crowded.on("repeat, no room", 'S', x -> x.repeat(0));
        crowded.on("makeConjunction, not cited and no line", 'I', x -> x.makeConjunction(7, 60));
        crowded.on("makeConjunction, no line and not cited", 'I', x -> x.makeConjunction(60, 7));
        crowded.on("makeConjunction, not cited", 'N', x -> x.makeConjunction(4, 7));
        crowded.on("makeConjunction, no room", 'S', x -> x.makeConjunction(4, 4));
        crowded.on("useConjunction, not cited and no conjunction", 'N', x -> x.useConjunction(7, true));
        crowded.on("useConjunction, no conjunction", 'U', x -> x.useConjunction(0, true));
        crowded.on("useConjunction, no room", 'S', x -> x.useConjunction(2, true));
        crowded.on("makeDisjunction, not cited and no formula", 'I', x -> x.makeDisjunction(7, 150, true));
        crowded.on("makeDisjunction, not cited", 'N', x -> x.makeDisjunction(7, 1, true));
        crowded.on("makeDisjunction, no room", 'S', x -> x.makeDisjunction(4, 1, true));
        crowded.on("useDisjunction, not cited and no box", 'I', x -> x.useDisjunction(7, 3, 4));
        crowded.on("useDisjunction, not cited and no box", 'I', x -> x.useDisjunction(7, 4, 3));
        crowded.on("useDisjunction, not cited and no line", 'I', x -> x.useDisjunction(60, 3, 3));
        crowded.on("useDisjunction, line not cited and no disjunction", 'N', x -> x.useDisjunction(7, 0, 1));
        crowded.on("useDisjunction, box not cited and no disjunction", 'N', x -> x.useDisjunction(0, 3, 1));
        crowded.on("useDisjunction, other box not cited and no disjunction", 'N', x -> x.useDisjunction(0, 0, 3));
        crowded.on("useDisjunction, no disjunction", 'U', x -> x.useDisjunction(0, 0, 1));
        crowded.on("useDisjunction, other first lines", 'U', x -> x.useDisjunction(1, 1, 0));
        crowded.on("useDisjunction, other results", 'U', x -> x.useDisjunction(1, 2, 1));
        crowded.on("useDisjunction, no room", 'S', x -> x.useDisjunction(1, 0, 1));
    }

    private static void implicationsAndNegationsInOrder(Stairs crowded) {
        crowded.on("makeImplication, not cited", 'N', x -> x.makeImplication(3));
        crowded.on("makeImplication, no room", 'S', x -> x.makeImplication(0));
        crowded.on("useImplication, not cited and no line", 'I', x -> x.useImplication(7, 60));
        crowded.on("useImplication, not cited and no implication", 'N', x -> x.useImplication(7, 0));
        crowded.on("useImplication, not cited and not fitting", 'N', x -> x.useImplication(3, 12));
        crowded.on("useImplication, no implication", 'U', x -> x.useImplication(0, 0));
        crowded.on("useImplication, not fitting", 'U', x -> x.useImplication(3, 0));
        crowded.on("useImplication, no room", 'S', x -> x.useImplication(3, 4));
        crowded.on("makeNegation, not cited and not falsum", 'N', x -> x.makeNegation(3));
        crowded.on("makeNegation, not falsum", 'U', x -> x.makeNegation(0));
        crowded.on("makeNegation, no room", 'S', x -> x.makeNegation(2));
        crowded.on("useNegation, not cited and no line", 'I', x -> x.useNegation(7, 60));
        crowded.on("useNegation, not cited and no negation", 'N', x -> x.useNegation(7, 0));
        crowded.on("useNegation, not cited and not fitting", 'N', x -> x.useNegation(5, 12));
        crowded.on("useNegation, no negation", 'U', x -> x.useNegation(0, 0));
        crowded.on("useNegation, not fitting", 'U', x -> x.useNegation(5, 0));
        crowded.on("useNegation, no room", 'S', x -> x.useNegation(5, 4));
        crowded.on("fromFalsum, not cited and no formula", 'I', x -> x.fromFalsum(7, 150));
        crowded.on("fromFalsum, not cited and no falsum", 'N', x -> x.fromFalsum(7, 0));
        crowded.on("fromFalsum, no falsum", 'U', x -> x.fromFalsum(1, 0));
        crowded.on("fromFalsum, no room", 'S', x -> x.fromFalsum(0, 0));
        crowded.on("doubleNegation, not cited and no double negation", 'N', x -> x.doubleNegation(7));
        crowded.on("doubleNegation, no double negation", 'U', x -> x.doubleNegation(5));
        crowded.on("doubleNegation, no room", 'S', x -> x.doubleNegation(6));
    }

    private static void lemmasInOrder(Stairs crowded, Check check) {
        crowded.on("useLemma, no lemma and no line", 'I', x -> x.useLemma(1, 60, 60));
        crowded.on("useLemma, not cited and no instance", 'N', x -> x.useLemma(0, 7, 60));
        crowded.on("useLemma, no instance", 'U', x -> x.useLemma(0, 1, 60));
        crowded.on("useLemma, no room", 'S', x -> x.useLemma(0, 0, 60));
        check.outcome("keepLemma, 8 lemmas and no lines", 'N', () -> eightLemmas(0), x -> x.keepLemma());
        check.outcome("keepLemma, 8 lemmas and three premises", 'U', () -> eightLemmas(3), x -> x.keepLemma());
        check.outcome("keepLemma, 8 lemmas and an open box", 'U', () -> {
            DeductionDesk x = eightLemmas(1);
            x.assume(0);
            return x;
        }, x -> x.keepLemma());
        check.outcome("keepLemma, 8 lemmas and a closed box", 'U', () -> Desks.closed(eightLemmas(1), "a"),
                x -> x.keepLemma());
        check.outcome("keepLemma, 8 lemmas", 'S', () -> eightLemmas(2), x -> x.keepLemma());
        check.outcome("distance, no formula where none has one", 'I', DeductionDesk::new, x -> x.distance(0));
        check.outcome("distanceByRounds, no formula where none has one", 'I', DeductionDesk::new,
                x -> x.distanceByRounds(0));
    }
}
