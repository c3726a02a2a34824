import java.util.Arrays;
import java.util.function.Consumer;
import java.util.function.Function;
import java.util.function.Supplier;

/** Each sentence of the document's beginning and of its terms that names a boundary case, with a test of its own. */
public final class EdgesOfTermsTest {
    private static final Edges EDGES = new Edges("EdgesOfTermsTest");
    private static final Check CHECK = EDGES.check();
    private static final String FOURTEEN = "N".repeat(13) + "a";
    private static final String FIFTEEN = "N".repeat(14) + "a";
    private static final String THIRTY = "N".repeat(29) + "a";

    private EdgesOfTermsTest() {
    }

    public static void main(String[] args) {
        testCalls();
        EDGES.section("Terms");
        EDGES.noEdge("Its calls are those of somebody who works on one proof: ..");
        testFormulas();
        testNumbersOfFormulas();
        testLines();
        testBoxes();
        testRules();
        testLemmas();
        testDistances();
        testNormalForms();
        testTruth();
        testExceptions();
        EDGES.end();
    }

    private static void testCalls() {
        EDGES.section("What it is");
        EDGES.noEdge("A checker of natural deductions in propositional logic: ..");
        EDGES.sentence("An object is used for at most 512 calls after it has been made; ..", () -> {
            DeductionDesk desk = Desks.with(THIRTY);
            for (int made = 0; made < 120; made++) {
                desk.disjunction(made / 15, made % 15);
            }
            for (int line = 0; line < 60; line++) {
                desk.premise(line);
            }
            // 210 calls have been sent, and four more are sent for each of 75 goals.
            for (int goal = 75; goal < 150; goal++) {
                CHECK.same("the distance of " + goal, desk.distance(goal), 1);
                CHECK.same("the same distance of " + goal, desk.distanceByRounds(goal), 1);
                CHECK.same("models of " + goal, desk.modelsByRows(goal), desk.models(goal));
            }
            CHECK.same("the 511th call", desk.lines(), 60);
            CHECK.same("the 512th call", desk.formulas(), 150);
        });
    }

    // ---- formulas

    private static void testFormulas() {
        EDGES.sentence("A line that is entered follows from the premises and the assumptions above it.", () -> {
            DeductionDesk desk = Desks.workshop();
            for (int line = 0; line < desk.lines(); line++) {
                CHECK.same("line " + line, desk.isSound(line), true);
            }
        });
        EDGES.sentence("A formula is one of the letters 0 to 4, or falsum, ..", () -> {
            CHECK.outcomes("a letter", DeductionDesk::new, -1, "A.....A", (x, n) -> x.letter(n));
            for (String each : new String[] {"a", "e", "F", "NF", "Na", "KFF", "AeF", "CFe", "CAaFKeNF"}) {
                DeductionDesk desk = Desks.with(each);
                CHECK.same("a formula", Desks.symbols(desk, desk.formulas() - 1), each);
            }
        });
        EDGES.sentence("Its size is the number of its symbols: ..", () -> {
            String[] formulas = {"a", "F", "Na", "NF", "KaF", "AFa", "CFF", "NKab", "CNaNb", THIRTY,
                "K" + FOURTEEN + FIFTEEN, "C".repeat(14) + "F".repeat(15)};
            int[] sizes = {1, 1, 2, 2, 3, 3, 3, 4, 5, 30, 30, 29};
            for (int i = 0; i < sizes.length; i++) {
                DeductionDesk desk = Desks.with(formulas[i]);
                CHECK.same("the size of " + formulas[i], desk.sizeOf(desk.formulas() - 1), sizes[i]);
            }
        });
        EDGES.sentence("Its symbols, in this order, are: ..", () -> {
            DeductionDesk desk = new DeductionDesk();
            for (int letter = 0; letter < 5; letter++) {
                CHECK.same("letter " + letter, desk.symbolAt(desk.letter(letter), 0), "abcde".charAt(letter));
            }
            CHECK.same("falsum", desk.symbolAt(desk.falsum(), 0), 'F');
            CHECK.same("a negation", Desks.symbols(desk, desk.negation(5)), "NF");
            CHECK.same("a conjunction", Desks.symbols(desk, desk.conjunction(6, 0)), "KNFa");
            CHECK.same("a disjunction", Desks.symbols(desk, desk.disjunction(4, 7)), "AeKNFa");
            CHECK.same("an implication", Desks.symbols(desk, desk.implication(8, 7)), "CAeKNFaKNFa");
            String largest = "C".repeat(7) + "N".repeat(15) + "abcdeFab";
            DeductionDesk large = Desks.with(largest);
            CHECK.same("30 symbols", Desks.symbols(large, large.formulas() - 1), largest);
        });
        EDGES.sentence("The parts of a formula are it itself and ..", () -> {
            String[] conclusions = {"a", "F", "NF", "Na", "Kaa", "KKaaKaa", "CKabNb", "ANaNNa", THIRTY};
            int[] parts = {0, 0, 0, 1, 1, 2, 3, 3, 29};
            for (int i = 0; i < parts.length; i++) {
                DeductionDesk desk = boundLemma(conclusions[i]);
                int before = desk.formulas();
                desk.useLemma(0, 0, 0);
                CHECK.same("parts of an instance of " + conclusions[i], desk.formulas() - before, parts[i]);
            }
        });
        EDGES.sentence("Two formulas are the same if they have the same symbols.", EdgesOfTermsTest::testSameFormulas);
    }

    private static void testSameFormulas() {
        DeductionDesk desk = Desks.proving("a", "b", "F");
        int made = desk.conjunction(0, 1);
        CHECK.same("made twice", desk.conjunction(0, 1), made);
        CHECK.same("made by a line", desk.formulaOf(desk.makeConjunction(0, 1)), made);
        CHECK.same("found by a step", desk.normalStep(Desks.make(desk, "NNKab")), made);
        CHECK.same("found as a normal form", desk.normalForm(Desks.make(desk, "NCaNb")), made);
        String[] others = {"Kba", "Aab", "Cab", "Kaa", "NKab", "KKabc", "KaKbc", "KNab", "KaNb", "NNKab", "Kab"};
        for (String one : others) {
            for (String other : others) {
                DeductionDesk both = Desks.with(one);
                CHECK.same(one + " and " + other, Desks.make(both, one) == Desks.make(both, other), one.equals(other));
            }
        }
    }

    /** A lemma with a conclusion, from falsum; a is bound to c and b to d, and line 0 is falsum. */
    private static DeductionDesk boundLemma(String conclusion) {
        DeductionDesk desk = Desks.proving("F");
        desk.fromFalsum(0, Desks.make(desk, conclusion));
        desk.keepLemma();
        desk.newProof();
        desk.premise(0);
        desk.bind(0, Desks.make(desk, "c"));
        desk.bind(1, Desks.make(desk, "d"));
        return desk;
    }

    // ---- numbers of formulas

    private static DeductionDesk full() {
        return Desks.fillWith(new DeductionDesk(), 4, 150);
    }

    private static void testNumbersOfFormulas() {
        EDGES.sentence("At most 150 formulas are known, ..", () -> {
            DeductionDesk desk = new DeductionDesk();
            CHECK.same("at first", desk.formulas(), 0);
            CHECK.outcomes("at first, a formula", DeductionDesk::new, -1, "II", (x, n) -> x.sizeOf(n));
            CHECK.same("the first one", desk.letter(4), 0);
            for (int number = 1; number < 30; number++) {
                CHECK.same("the next one", desk.negation(number - 1), number);
            }
            for (int number = 30; number < 150; number++) {
                CHECK.same("the next one", desk.conjunction((number - 30) / 15, (number - 30) % 15), number);
            }
            CHECK.same("all", desk.formulas(), 150);
            CHECK.outcome("one more", 'S', EdgesOfTermsTest::full, x -> x.falsum());
            CHECK.outcomes("a formula among 150", EdgesOfTermsTest::full, -1, "I" + ".".repeat(150) + "I",
                    (x, n) -> x.models(n));
        });
        EDGES.sentence("A formula that a call makes becomes known if it is not yet, ..", () -> {
            becomeKnown("a letter", new DeductionDesk(), x -> x.letter(2), "c");
            becomeKnown("a known letter", Desks.with("c"), x -> x.letter(2));
            becomeKnown("one that consists of known ones", Desks.with("a"), x -> x.negation(0), "Na");
            becomeKnown("the left one first", Desks.with("NKab"), x -> x.normalStep(3), "Na", "Nb", "ANaNb");
            becomeKnown("the right one known", Desks.with("NKab", "Nb"), x -> x.normalForm(3), "Na", "ANaNb");
            becomeKnown("all but the whole known", Desks.with("NKab", "Nb", "Na"), x -> x.normalForm(3), "ANaNb");
            becomeKnown("all known", Desks.with("NKab", "ANaNb"), x -> x.normalForm(3));
            becomeKnown("the same one twice", Desks.with("NKaa"), x -> x.normalForm(2), "Na", "ANaNa");
            becomeKnown("parts of parts", Desks.with("NAKabCab"), x -> x.normalForm(5),
                    "Na", "Nb", "ANaNb", "KaNb", "KANaNbKaNb");
            becomeKnown("parts of a lemma's conclusion", boundLemma("AKaNaNa"), x -> x.useLemma(0, 0, 0),
                    "Nc", "KcNc", "AKcNcNc");
            becomeKnown("falsum", Desks.proving("Na", "a"), x -> x.useNegation(0, 1), "F");
        });
        EDGES.sentence("A formula cannot be made if its size is above 30, or if more than 150 ..", () -> {
            testSizesOfFormulas();
            testSizesOfLines();
            testRoomForFormulas();
            testRoomForLines();
        });
    }

    private static void becomeKnown(String what, DeductionDesk desk, Consumer<DeductionDesk> call, String... due) {
        int before = desk.formulas();
        call.accept(desk);
        CHECK.same(what + ", the number of new ones", desk.formulas() - before, due.length);
        for (int i = 0; i < due.length; i++) {
            CHECK.same(what + ", new one " + i, Desks.symbols(desk, before + i), due[i]);
        }
    }

    /** The first call makes a formula of size 30, the second one should make one of size 31. */
    private static void sizes(String what, Supplier<DeductionDesk> prepare, Function<DeductionDesk, Integer> fitting,
            Consumer<DeductionDesk> tooLarge) {
        DeductionDesk desk = prepare.get();
        CHECK.same(what + " of size 30", desk.sizeOf(fitting.apply(desk)), 30);
        CHECK.outcome(what + " of size 31", 'S', prepare, tooLarge);
    }

    private static void testSizesOfFormulas() {
        sizes("a negation", () -> Desks.with(THIRTY, "N".repeat(28) + "b"), x -> x.negation(58), x -> x.negation(29));
        Supplier<DeductionDesk> pair = () -> Desks.with(FIFTEEN);
        sizes("a conjunction", pair, x -> x.conjunction(13, 14), x -> x.conjunction(14, 14));
        sizes("a disjunction", pair, x -> x.disjunction(14, 13), x -> x.disjunction(14, 14));
        sizes("an implication", pair, x -> x.implication(13, 14), x -> x.implication(14, 14));
        sizes("a step", () -> Desks.with("C" + FOURTEEN + FOURTEEN, "C" + FOURTEEN + FIFTEEN),
                x -> x.normalStep(14), x -> x.normalStep(16));
        String growing = "AN" + "Ka".repeat(8) + "aAb";
        int first = Desks.with(growing + "b").formulas() - 1;
        int second = Desks.with(growing + "b", growing + "Nb").formulas() - 1;
        sizes("a normal form", () -> Desks.with(growing + "b", growing + "Nb"),
                x -> x.normalForm(first), x -> x.normalForm(second));
    }

    private static void testSizesOfLines() {
        // Formulas 14 and 15 have these sizes, lines 1 and 2 too.
        Supplier<DeductionDesk> lines = () -> Desks.proving("F", FOURTEEN, FIFTEEN);
        sizes("a conjunction", lines, x -> x.formulaOf(x.makeConjunction(1, 2)), x -> x.makeConjunction(2, 2));
        sizes("a disjunction", lines, x -> x.formulaOf(x.makeDisjunction(1, 15, false)),
                x -> x.makeDisjunction(2, 15, false));
        sizes("a disjunction", lines, x -> x.formulaOf(x.makeDisjunction(2, 14, true)),
                x -> x.makeDisjunction(2, 15, true));
        sizes("an implication", () -> Desks.box(Desks.box(lines.get(), FOURTEEN, FIFTEEN), FIFTEEN, FIFTEEN),
                x -> x.formulaOf(x.makeImplication(0)), x -> x.makeImplication(1));
        sizes("a negation", () -> Desks.box(Desks.box(lines.get(), "N".repeat(28) + "b", "F"), THIRTY, "F"),
                x -> x.formulaOf(x.makeNegation(0)), x -> x.makeNegation(1));
        sizes("an instance", () -> {
            DeductionDesk x = Desks.proving("F", "a");
            x.fromFalsum(0, Desks.make(x, "KaNa"));
            x.keepLemma();
            x.fromFalsum(0, Desks.make(x, "KaNNa"));
            x.keepLemma();
            x.newProof();
            x.premise(0);
            x.premise(Desks.make(x, FOURTEEN));
            return x;
        }, x -> x.formulaOf(x.useLemma(0, 0, 1)), x -> x.useLemma(1, 0, 1));
    }

    private static void testRoomForFormulas() {
        Supplier<DeductionDesk> letters = () -> Desks.with("a", "b");
        CHECK.room(1, letters, x -> x.letter(2));
        CHECK.room(1, letters, x -> x.falsum());
        CHECK.room(1, letters, x -> x.negation(1));
        CHECK.room(1, letters, x -> x.conjunction(0, 1));
        CHECK.room(1, letters, x -> x.disjunction(1, 0));
        CHECK.room(1, letters, x -> x.implication(1, 1));
        CHECK.room(1, () -> Desks.with("Cab", "Na"), x -> x.normalStep(2));
        CHECK.room(3, () -> Desks.with("NKab"), x -> x.normalStep(3));
        CHECK.room(1, () -> Desks.with("KNaNNb"), x -> x.normalForm(5));
        CHECK.room(5, () -> Desks.with("NKKabc"), x -> x.normalForm(5));
    }

    private static void testRoomForLines() {
        CHECK.room(1, () -> Desks.proving("a", "b"), x -> x.makeConjunction(0, 1));
        CHECK.room(1, () -> Desks.proving("a", "b"), x -> x.makeDisjunction(0, 1, true));
        CHECK.room(1, () -> Desks.box(Desks.proving("F"), "a", "b"), x -> x.makeImplication(0));
        CHECK.room(1, () -> Desks.box(Desks.proving("F"), "a", "F"), x -> x.makeNegation(0));
        CHECK.room(1, () -> Desks.proving("Na", "a"), x -> x.useNegation(0, 1));
        CHECK.room(1, () -> boundLemma("Na"), x -> x.useLemma(0, 0, 0));
        CHECK.room(3, () -> boundLemma("AKaNaNa"), x -> x.useLemma(0, 0, 0));
    }

    // ---- lines and boxes

    private static void testLines() {
        EDGES.sentence("The proof has at most 60 lines, numbered from 0; ..", () -> {
            DeductionDesk desk = Desks.with("a", "Na");
            CHECK.outcomes("at first, a line", () -> Desks.with("a"), -1, "II", (x, n) -> x.ruleOf(n));
            for (int line = 0; line < 60; line++) {
                CHECK.same("the next line", line % 2 == 0 ? desk.premise(0) : desk.repeat(line - 1), line);
                CHECK.same("its rule", desk.ruleOf(line), line % 2 == 0 ? 'P' : 'R');
            }
            CHECK.same("all lines", desk.lines(), 60);
            for (int i = 0; i < Desks.ENTERING.size(); i++) {
                CHECK.sixty(Desks.ENTERING.get(i));
            }
            CHECK.outcomes("a line among 60", () -> Desks.fillLines(Desks.proving("a"), 0), -1,
                    "I" + ".".repeat(60) + "I", (x, n) -> x.formulaOf(n));
        });
        EDGES.sentence("Each line lies in the innermost box that is open when it is entered, ..", () -> {
            DeductionDesk desk = Desks.with("a");
            CHECK.same("without boxes", desk.depthOf(desk.premise(0)), 0);
            for (int depth = 1; depth < 60; depth++) {
                CHECK.same("an assumption in its own box", desk.depthOf(desk.assume(0)), depth);
            }
            DeductionDesk nested = Desks.nested();
            CHECK.same("in the inner box", nested.depthOf(nested.repeat(0)), 2);
            nested.closeBox();
            CHECK.same("in the outer box", nested.depthOf(nested.repeat(0)), 1);
            nested.closeBox();
            CHECK.same("behind the boxes", nested.depthOf(nested.repeat(0)), 0);
            CHECK.same("a box behind closed ones", nested.depthOf(nested.assume(0)), 1);
        });
        EDGES.sentence("Directly, it lies only in the innermost one.", () -> {
            DeductionDesk desk = Desks.with("a", "b");
            desk.assume(0);
            desk.assume(1);
            CHECK.same("the result of the outer box", desk.resultOf(0), 0);
            desk.repeat(1);
            desk.closeBox();
            CHECK.same("the result of the outer box, the inner one closed", desk.resultOf(0), 0);
            desk.makeImplication(1);
            CHECK.same("a line behind the inner box", Desks.symbols(desk, desk.resultOf(0)), "Cbb");
            CHECK.same("the result of the inner box", desk.resultOf(1), 1);
        });
        EDGES.sentence("A line can be cited if all boxes in which it lies are open.", () -> {
            canCite("a line in no box, and assumptions", deep(), "yyyy");
            canCite("the innermost closed", closing(deep(), 1), "yyyn");
            canCite("two closed", closing(deep(), 2), "yynn");
            canCite("all closed", closing(deep(), 3), "ynnn");
            DeductionDesk again = closing(deep(), 3);
            again.assume(0);
            canCite("another box at the place of closed ones", again, "ynnny");
        });
    }

    /** A premise and three boxes, each in the one before. */
    private static DeductionDesk deep() {
        DeductionDesk desk = Desks.proving("a");
        for (int i = 0; i < 3; i++) {
            desk.assume(0);
        }
        return desk;
    }

    private static DeductionDesk closing(DeductionDesk desk, int boxes) {
        for (int i = 0; i < boxes; i++) {
            desk.closeBox();
        }
        return desk;
    }

    private static void canCite(String what, DeductionDesk desk, String due) {
        CHECK.same(what + ", lines", desk.lines(), due.length());
        for (int line = 0; line < due.length(); line++) {
            CHECK.same(what + ", line " + line, desk.canCite(line), due.charAt(line) == 'y');
        }
    }

    private static void canCiteBox(String what, DeductionDesk desk, String due) {
        CHECK.same(what + ", boxes", desk.boxes(), due.length());
        for (int box = 0; box < due.length(); box++) {
            CHECK.same(what + ", box " + box, desk.canCiteBox(box), due.charAt(box) == 'y');
        }
    }

    private static void testBoxes() {
        EDGES.sentence("An assumption opens a box, of which it is the first line; ..", () -> {
            DeductionDesk desk = Desks.with("a");
            CHECK.same("at first", desk.boxes(), 0);
            CHECK.outcomes("at first, a box", () -> Desks.with("a"), -1, "II", (x, n) -> x.resultOf(n));
            for (int box = 0; box < 60; box++) {
                desk.assume(0);
                CHECK.same("boxes", desk.boxes(), box + 1);
                CHECK.same("the number of the box that is closed", box % 3 == 0 ? desk.closeBox() : box, box);
            }
            CHECK.same("the last one", desk.closeBox(), 59);
            CHECK.same("the one before", desk.closeBox(), 58);
            CHECK.same("the one before that is open", desk.closeBox(), 56);
            DeductionDesk first = Desks.box(Desks.proving("F"), "a", "b");
            CHECK.same("the first line of a box", Desks.shown(first, first.makeImplication(0)), "Cab");
        });
        EDGES.sentence("A box lies in the innermost box that was open then, if there was one.", () -> {
            canCiteBox("in none", closing(deep(), 3), "ynn");
            canCiteBox("in the second one", closing(deep(), 1), "nny");
            DeductionDesk desk = closing(deep(), 2);
            desk.assume(0);
            desk.closeBox();
            canCiteBox("in the outer one, behind an inner one", desk, "nyny");
            desk.closeBox();
            desk.assume(0);
            desk.closeBox();
            canCiteBox("in none, behind closed ones", desk, "ynnny");
        });
        EDGES.sentence("The result of a box is the formula of the last line that lies directly in it.", () -> {
            DeductionDesk desk = Desks.with("a", "b");
            desk.assume(0);
            CHECK.same("one line", desk.resultOf(0), 0);
            desk.makeConjunction(0, 0);
            CHECK.same("two lines", Desks.symbols(desk, desk.resultOf(0)), "Kaa");
            desk.assume(1);
            CHECK.same("a box in it", Desks.symbols(desk, desk.resultOf(0)), "Kaa");
            closing(desk, 2);
            CHECK.same("closed", Desks.symbols(desk, desk.resultOf(0)), "Kaa");
            desk.makeImplication(0);
            CHECK.same("a line behind it", Desks.symbols(desk, desk.resultOf(0)), "Kaa");
            desk.newProof();
            desk.assume(1);
            CHECK.same("in a new proof", desk.resultOf(0), 1);
        });
        EDGES.sentence("A box can be cited if it is closed and the box in which it lies, if there is one, ..", () -> {
            canCiteBox("open", deep(), "nnn");
            canCiteBox("closed in an open one", closing(deep(), 1), "nny");
            canCiteBox("closed in a closed one", closing(deep(), 2), "nyn");
            canCiteBox("closed in none", closing(deep(), 3), "ynn");
        });
    }

    private static void testRules() {
        EDGES.sentence("Each rule has a letter: ..", () -> {
            String rules = "PHRklrabvcminxdL";
            CHECK.same("entering calls", Desks.ENTERING.size(), rules.length());
            for (int i = 0; i < rules.length(); i++) {
                DeductionDesk desk = Desks.workshop();
                Desks.ENTERING.get(i).accept(desk);
                CHECK.same("the rule of entering call " + i, desk.ruleOf(desk.lines() - 1), rules.charAt(i));
            }
        });
    }

    // ---- lemmas

    /** A desk with a lemma that has these premises; its conclusion is the implication of falsum and a formula. */
    private static DeductionDesk lemma(String conclusion, String... premises) {
        DeductionDesk desk = Desks.proving(premises);
        desk.assume(desk.falsum());
        desk.fromFalsum(premises.length, Desks.make(desk, conclusion));
        desk.closeBox();
        desk.makeImplication(0);
        desk.keepLemma();
        desk.newProof();
        return desk;
    }

    private static DeductionDesk proving(DeductionDesk desk, String... premises) {
        desk.newProof();
        for (String each : premises) {
            desk.premise(Desks.make(desk, each));
        }
        return desk;
    }

    /** Returns what the lemma enters from lines with these formulas: an implication of falsum and its conclusion. */
    private static String instance(DeductionDesk desk, String... lines) {
        return Desks.shown(desk, proving(desk, lines).useLemma(0, 0, 1));
    }

    private static void testLemmas() {
        EDGES.sentence("At most 8 lemmas are kept, numbered from 0; ..", () -> {
            DeductionDesk desk = new DeductionDesk();
            CHECK.outcomes("at first, a lemma", DeductionDesk::new, -1, "II", (x, n) -> x.conclusionOf(n));
            desk.assume(desk.letter(0));
            desk.closeBox();
            desk.makeImplication(0);
            for (int lemma = 0; lemma < 8; lemma++) {
                CHECK.same("the next lemma", desk.keepLemma(), lemma);
                if (lemma < 2) {
                    desk.premise(0);
                }
            }
            CHECK.outcome("the ninth lemma", 'S', () -> keeping(8), x -> x.keepLemma());
            CHECK.outcome("the eighth lemma", '.', () -> keeping(7), x -> x.keepLemma());
            CHECK.outcomes("a lemma among 8", () -> keeping(8), -1, "I........I", (x, n) -> x.conclusionOf(n));
            String[] premises = {"a", "b", "c"};
            for (int count = 0; count < 3; count++) {
                DeductionDesk some = lemma("d", Arrays.copyOf(premises, count));
                CHECK.same("a lemma with " + count + " premises", Desks.symbols(some, some.conclusionOf(0)), "CFd");
                proving(some, "a", "b");
                CHECK.same("its first premise", Check.outcomeOf(some, x -> x.useLemma(0, 9, 1)), count > 0 ? 'I' : '.');
                CHECK.same("its second one", Check.outcomeOf(some, x -> x.useLemma(0, 0, 9)), count > 1 ? 'I' : '.');
            }
            CHECK.outcome("a lemma with 3 premises", 'U', () -> Desks.proving(premises), x -> x.keepLemma());
        });
        EDGES.sentence("An instance of a lemma is found by replacing each letter ..", () -> {
            CHECK.same("the same formula twice", instance(lemma("a", "Kaa"), "KNbNb"), "CFNb");
            CHECK.outcome("not the same formula twice", 'U', () -> proving(lemma("a", "Kaa"), "KNbb"),
                    x -> x.useLemma(0, 0, 1));
            CHECK.same("the same in both premises", instance(lemma("a", "a", "Na"), "Kbc", "NKbc"), "CFKbc");
            CHECK.outcome("not the same in both", 'U', () -> proving(lemma("a", "a", "Na"), "Kbc", "NKcb"),
                    x -> x.useLemma(0, 0, 1));
            CHECK.same("one formula for two letters", instance(lemma("Kab", "Aab"), "Acc"), "CFKcc");
            CHECK.same("letters exchanged", instance(lemma("Kab", "Aab"), "Aba"), "CFKba");
            CHECK.same("falsum for a letter", instance(lemma("a", "Na"), "NF"), "CFF");
            CHECK.outcome("a letter for falsum", 'U', () -> proving(lemma("a", "NF"), "Na"), x -> x.useLemma(0, 0, 1));
            CHECK.same("30 symbols for a letter", instance(lemma("b", "a"), THIRTY), "CFb");
            CHECK.same("no letter at all", instance(lemma("F", "NF"), "NF"), "CFF");
        });
        EDGES.sentence("A letter that occurs in the conclusion but in no premise is replaced ..", () -> {
            CHECK.same("not bound", instance(lemma("Kab")), "CFKab");
            CHECK.same("one bound", instance(binding(lemma("Kab"), 1, "Na")), "CFKaNa");
            CHECK.same("both bound", instance(binding(binding(lemma("Kab"), 1, "Na"), 0, "b")), "CFKbNa");
            CHECK.same("bound to itself", instance(binding(lemma("Kab"), 0, "a")), "CFKab");
            CHECK.same("bound anew", instance(binding(binding(lemma("Kab"), 0, "c"), 0, "d")), "CFKdb");
            CHECK.same("in the first premise", instance(binding(lemma("Kab", "a"), 0, "c"), "d"), "CFKdb");
            CHECK.same("in the second premise", instance(binding(lemma("Kab", "F", "a"), 0, "c"), "F", "d"), "CFKdb");
            CHECK.same("inside a premise", instance(binding(lemma("Kab", "CNac"), 0, "c"), "CNde"), "CFKdb");
            CHECK.same("the last letter", instance(binding(lemma("e"), 4, "a")), "CFa");
        });
        EDGES.sentence("Lemmas, bindings and formulas stay when a new proof is begun.", () -> {
            DeductionDesk desk = binding(keeping(8), 0, "Nb");
            int formulas = desk.formulas();
            desk.newProof();
            desk.newProof();
            CHECK.same("lemmas", desk.lemmas(), 8);
            CHECK.same("formulas", desk.formulas(), formulas);
            CHECK.same("an instance", Desks.shown(desk, desk.useLemma(7, 9, 9)), "CNbNb");
            CHECK.same("the binding", desk.bind(0, 0), Desks.make(desk, "Nb"));
            CHECK.same("150 formulas", Desks.fillWith(desk, 4, 150).newProof(), 1);
            CHECK.same("150 formulas stay", desk.formulas(), 150);
        });
    }

    private static DeductionDesk binding(DeductionDesk desk, int letter, String formula) {
        desk.bind(letter, Desks.make(desk, formula));
        return desk;
    }

    /** A desk with some lemmas, each with the conclusion Caa and without premises. */
    private static DeductionDesk keeping(int lemmas) {
        DeductionDesk desk = Desks.closed(new DeductionDesk(), "a");
        desk.makeImplication(0);
        for (int i = 0; i < lemmas; i++) {
            desk.keepLemma();
        }
        return desk;
    }

    // ---- distances

    private static void testDistances() {
        EDGES.sentence("The formulas in view of a goal are the parts of the formulas of all lines ..", () -> {
            CHECK.distance("no lines", DeductionDesk::new, "a", -1);
            CHECK.distance("the goal is a part of itself", () -> Desks.proving("F"), "a", 1);
            CHECK.distance("a part of a part", () -> Desks.proving("CbAaKcNNd", "b", "CAaKcNNdKcNNd"), "d", 4);
            CHECK.distance("parts of a line of a closed box", () -> Desks.closed(Desks.proving("b"), "Kba"), "a", -1);
            CHECK.distance("parts of a line of an open box", () -> {
                DeductionDesk x = Desks.proving("b");
                x.assume(Desks.make(x, "Kba"));
                return x;
            }, "a", 1);
            CHECK.distance("parts of the goal", () -> Desks.proving("a"), "KAabAca", 3);
            CHECK.distance("falsum that is not known", () -> Desks.proving("Na", "a"), "b", 2);
            CHECK.distance("falsum that is known", () -> {
                DeductionDesk x = Desks.proving("Na", "a");
                x.falsum();
                return x;
            }, "b", 2);
            CHECK.distance("falsum beside 150 formulas", () -> {
                DeductionDesk x = Desks.proving("Na", "a");
                Desks.make(x, "b");
                return Desks.fillWith(x, 4, 150);
            }, "b", 2);
        });
        EDGES.sentence("The distance of a formula in view is 0 if it is the formula of a line that can be ..", () -> {
            CHECK.distance("a premise", () -> Desks.proving("Kab"), "Kab", 0);
            CHECK.distance("falsum", () -> Desks.proving("a", "F"), "F", 0);
            CHECK.distance("an assumption", Desks::nested, "e", 0);
            CHECK.distance("a line among 60", () -> Desks.fillLinesTo(Desks.proving("b", "a"), 0, 60), "a", 0);
            CHECK.distance("a line of a closed box", () -> Desks.closed(Desks.proving("b"), "a"), "a", -1);
            CHECK.distance("two lines, one in a closed box", () -> Desks.closed(Desks.proving("a"), "a"), "a", 0);
        });
        EDGES.sentence("Otherwise, it is the least number that can be found by a rule from other formulas ..", () -> {
            CHECK.distance("the same formula twice", () -> Desks.proving("NNa"), "Kaa", 3);
            CHECK.distance("the same line twice", () -> Desks.proving("a"), "Kaa", 1);
            CHECK.distance("the same formula by two formulas", () -> Desks.proving("NNa"), "KAabAba", 5);
            CHECK.distance("the left and the right formula", () -> Desks.proving("NNa", "NNb"), "Kba", 3);
            CHECK.distance("one formula alone", () -> Desks.proving("NNa"), "Kab", -1);
            CHECK.distance("the left formula of a conjunction", () -> Desks.proving("NNKab"), "a", 2);
            CHECK.distance("the right formula of a conjunction", () -> Desks.proving("NNKab"), "b", 2);
            CHECK.distance("a disjunction from the left formula", () -> Desks.proving("NNa"), "Aab", 2);
            CHECK.distance("a disjunction from the right formula", () -> Desks.proving("NNa"), "Aba", 2);
            CHECK.distance("a disjunction from the nearer formula", () -> Desks.proving("NNa", "b"), "Aab", 1);
            CHECK.distance("the right formula of an implication", () -> Desks.proving("NNCab", "NNa"), "b", 3);
            CHECK.distance("an implication alone", () -> Desks.proving("Cab", "b"), "a", -1);
            CHECK.distance("falsum from a negation", () -> Desks.proving("NNNa", "NNa"), "F", 1);
            CHECK.distance("falsum from a negation that is found", () -> Desks.proving("NNNa", "Kab"), "F", 3);
            CHECK.distance("any formula from falsum", () -> Desks.proving("NNF"), "Cab", 2);
            CHECK.distance("a double negation", () -> Desks.proving("NNNa"), "Na", 1);
            CHECK.distance("the least of three ways", () -> Desks.proving("KKKabbb", "NNNNa", "CNNba", "NNb"), "a", 1);
            CHECK.distance("a rule that is not named", () -> Desks.proving("Aaa"), "a", -1);
        });
        EDGES.sentence("A distance that would be greater than 9999 does not count: ..", () -> {
            CHECK.distance("9998", () -> Desks.chain("dd+d+d+dddd+dddd"), "CeCeCec", 9998);
            CHECK.distance("9999", () -> Desks.chain("dd+d+d+dddd+dddd+"), "CeCeCed", 9999);
            CHECK.distance("10000", () -> Desks.chain("dd+d+d+dddd+dddd++"), "CeCeCee", -1);
            CHECK.distance("9999 by a disjunction", () -> Desks.chain("dd+d+d+dddd+dddd"), "ACeCeCece", 9999);
            CHECK.distance("10000 by a disjunction", () -> Desks.chain("dd+d+d+dddd+dddd+"), "ACeCeCede", -1);
            CHECK.distance("9999 by a conjunction", () -> Desks.chain("dd+d+d+dddd+dddd"), "KaCeCeCec", 9999);
            CHECK.distance("10000 by a conjunction", () -> Desks.chain("dd+d+d+dddd+dddd+"), "KCeCeCeda", -1);
        });
    }

    // ---- normal forms

    /** A formula, the formulas behind each of its steps, in a row. */
    private static void steps(String... row) {
        DeductionDesk desk = Desks.with(row[0]);
        int formula = Desks.make(desk, row[0]);
        int last = row.length - 1;
        CHECK.same("the number of steps of " + row[0], desk.normalSteps(formula), last);
        CHECK.same("the normal form of " + row[0], Desks.symbols(desk, desk.normalForm(formula)), row[last]);
        for (int i = 1; i <= last; i++) {
            formula = desk.normalStep(formula);
            CHECK.same("behind step " + i + " of " + row[0], Desks.symbols(desk, formula), row[i]);
        }
        int end = formula;
        CHECK.outcome("a step of " + row[last], 'N', () -> Desks.with(row[last]),
                x -> x.normalStep(x.formulas() - 1));
        CHECK.same("the normal form of " + row[last], desk.normalForm(end), end);
    }

    private static void testNormalForms() {
        EDGES.sentence("A step replaces one part of a formula at one place: ..", () -> {
            steps("Cab", "ANab");
            steps("CFF", "ANFF");
            steps("NNa", "a");
            steps("NKab", "ANaNb");
            steps("NAab", "KNaNb");
            steps("NCab", "NANab", "KNNaNb", "KaNb");
        });
        EDGES.sentence("It replaces the part whose first symbol comes first in the symbols of the formula, ..", () -> {
            steps("KCabCab", "KANabCab", "KANabANab");
            steps("KNNaNNa", "KaNNa", "Kaa");
            steps("CCabc", "ANCabc", "ANANabc", "AKNNaNbc", "AKaNbc");
            steps("NNCab", "Cab", "ANab");
            steps("NNNa", "Na");
            steps("NNNNa", "NNa", "a");
            steps("NKNNab", "ANNNaNb", "ANaNb");
            steps("NACabCab", "KNCabNCab", "KNANabNCab", "KKNNaNbNCab", "KKaNbNCab", "KKaNbNANab", "KKaNbKNNaNb",
                    "KKaNbKaNb");
            steps("CaNNb", "ANaNNb", "ANab");
        });
        EDGES.sentence("The normal form is found by steps until none applies.", () -> {
            for (String each : new String[] {"a", "e", "F", "Na", "NF", "KaNb", "AFNF", "KANaNbAcNd"}) {
                steps(each);
            }
            String thirty = "Ka".repeat(14) + "Nb";
            CHECK.same("30 symbols", thirty.length(), 30);
            steps(thirty);
            DeductionDesk most = Desks.with("N" + "Ca".repeat(14) + "a");
            CHECK.same("the most steps", most.normalSteps(most.formulas() - 1), 42);
        });
    }

    // ---- truth

    private static void testTruth() {
        EDGES.sentence("A valuation makes each of the five letters true or false; ..", () -> {
            models("F", 0);
            models("NF", 32);
            models("KKKKabcde", 1);
            models("KKKKNaNbNcNdNe", 1);
            models("AAAAabcde", 31);
            for (String each : new String[] {"a", "b", "c", "d", "e"}) {
                models(each, 16);
                models("K" + each + each, 16);
                models("K" + each + "N" + each, 0);
            }
        });
        EDGES.sentence("Falsum is false, and the others have their usual meaning: ..", () -> {
            // T is NF, and F is falsum: each connective for each pair of values.
            String[] formulas = {"NF", "NNF", "KTT", "KTF", "KFT", "KFF", "ATT", "ATF", "AFT", "AFF", "CTT", "CTF",
                "CFT", "CFF"};
            String values = "tftffftttftftt";
            for (int i = 0; i < formulas.length; i++) {
                models(formulas[i].replace("T", "NF"), values.charAt(i) == 't' ? 32 : 0);
            }
            models("Kab", 8);
            models("Aab", 24);
            models("Cab", 24);
            models("KCabNCba", 8);
        });
        EDGES.sentence("A formula follows from others if it is true for each valuation ..", () -> {
            follows("no others", new DeductionDesk(), "AaNa", true);
            follows("no others", new DeductionDesk(), "Aab", false);
            follows("no valuation for which all are true", Desks.proving("a", "Na"), "F", true);
            follows("one valuation", Desks.proving("KKKKabcde"), "KKKKabcde", true);
            follows("one valuation", Desks.proving("KKKKabcde"), "NKKKKabcde", false);
            follows("all but one valuation", Desks.proving("AAAAabcde"), "AAAAabcde", true);
            follows("one valuation more", Desks.proving("AAAAabcde"), "AAAabcd", false);
            follows("itself", Desks.proving("a"), "a", true);
            follows("all together", Desks.proving("Cab", "Cbc", "a"), "c", true);
            follows("one is missing", Desks.proving("Cab", "a"), "c", false);
        });
    }

    private static void models(String formula, int due) {
        DeductionDesk desk = Desks.with(formula);
        int number = Desks.make(desk, formula);
        CHECK.same("models of " + formula, desk.models(number), due);
        CHECK.same("models by rows of " + formula, desk.modelsByRows(number), due);
    }

    private static void follows(String what, DeductionDesk desk, String formula, boolean due) {
        CHECK.same(what + ": " + formula, desk.follows(Desks.make(desk, formula)), due);
    }

    // ---- exceptions

    /** Formulas that a refused call would have made have no number that is taken from the next ones. */
    private static void testNumbersBehindRefusals() {
        DeductionDesk desk = Desks.fillWith(Desks.with("NKKabc"), 4, 148);
        CHECK.same("no room for five", Check.outcomeOf(desk, x -> x.normalForm(5)), 'S');
        CHECK.same("no room for three", Check.outcomeOf(desk, x -> x.normalStep(5)), 'S');
        CHECK.same("the next normal form", desk.normalForm(2), 2);
        CHECK.same("the normal form behind it", desk.normalForm(2), 2);
        CHECK.same("the next formula", desk.falsum(), 148);
        CHECK.same("its symbols", Desks.symbols(desk, 148), "F");
        CHECK.same("its models", desk.models(148), 0);
        CHECK.same("its models by rows", desk.modelsByRows(148), 0);
        CHECK.same("the last formula", desk.implication(148, 0), 149);
        CHECK.same("its symbols", Desks.symbols(desk, 149), "CFa");
        CHECK.same("its models", desk.models(149), 32);
        CHECK.same("its models by rows", desk.modelsByRows(149), 32);
        desk.premise(148);
        CHECK.same("its distance", desk.distance(149), 1);
        CHECK.same("the same distance", desk.distanceByRounds(149), 1);
    }

    private static void testExceptions() {
        EDGES.sentence("A method that throws an exception changes nothing.", () -> {
            Stairs.testEachExceptionAlone(CHECK);
            testNumbersBehindRefusals();
        });
        EDGES.sentence("If several exceptions apply, the one that is documented first is thrown.", () -> {
            Stairs.testSeveralExceptions(CHECK);
        });
    }
}
