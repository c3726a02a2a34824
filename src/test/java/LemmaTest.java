import java.util.NoSuchElementException;
import java.util.function.Supplier;

/** Promises 27 to 30: lemmas, and their instances. */
public final class LemmaTest {
    private static final Class<?> INDEX = IndexOutOfBoundsException.class;
    private static final Class<?> NO_SUCH = NoSuchElementException.class;
    private static final Class<?> SHAPE = UnsupportedOperationException.class;
    private static final Class<?> STATE = IllegalStateException.class;
    private static final Check CHECK = new Check("LemmaTest");

    private LemmaTest() {
    }

    public static void main(String[] args) {
        testKeepLemma();
        testKeepLemmaRefused();
        testUseLemma();
        testBindings();
        testInstances();
        testFalsumInPremises();
        testTwoPremises();
        testNewFormulas();
        testUseLemmaRefused();
        testLimitsOfInstances();
        testLemmas();
        testConclusionOf();
        CHECK.end();
    }

    /** Keeps a lemma with a premise and falsum, from which any conclusion is entered, and begins a new proof. */
    private static void keep(DeductionDesk desk, String premise, String conclusion) {
        desk.premise(Desks.make(desk, premise));
        desk.premise(desk.falsum());
        desk.fromFalsum(1, Desks.make(desk, conclusion));
        desk.keepLemma();
        desk.newProof();
    }

    /** A desk with such a lemma, whose proof has falsum as line 0 and another premise as line 1. */
    private static DeductionDesk using(String premise, String conclusion, String line) {
        DeductionDesk desk = new DeductionDesk();
        keep(desk, premise, conclusion);
        desk.premise(desk.falsum());
        desk.premise(Desks.make(desk, line));
        return desk;
    }

    /** A desk with the lemma that falsum alone gives a conclusion; line 0 is falsum. */
    private static DeductionDesk fromFalsum(String conclusion) {
        DeductionDesk desk = Desks.proving("F");
        desk.fromFalsum(0, Desks.make(desk, conclusion));
        desk.keepLemma();
        desk.newProof();
        desk.premise(desk.falsum());
        return desk;
    }

    /** A desk with the lemma CaCba, without premises. */
    private static DeductionDesk weakening() {
        DeductionDesk desk = Desks.with("a", "b");
        desk.assume(0);
        desk.assume(1);
        desk.repeat(0);
        desk.closeBox();
        desk.makeImplication(1);
        desk.closeBox();
        desk.makeImplication(0);
        desk.keepLemma();
        desk.newProof();
        return desk;
    }

    /** A desk with the lemma that b follows from Cab and a. */
    private static DeductionDesk modusPonens(String... premises) {
        DeductionDesk desk = Desks.proving("Cab", "a");
        desk.useImplication(0, 1);
        desk.keepLemma();
        desk.newProof();
        for (String each : premises) {
            desk.premise(Desks.make(desk, each));
        }
        return desk;
    }

    private static DeductionDesk eightLemmas(int premises) {
        DeductionDesk desk = Desks.proving("a");
        for (int i = 0; i < 8; i++) {
            CHECK.same("promise 27: lemma " + i, desk.keepLemma(), i);
        }
        desk.newProof();
        for (int i = 0; i < premises; i++) {
            desk.premise(0);
        }
        return desk;
    }

    private static void testKeepLemma() {
        DeductionDesk desk = Desks.proving("Cab", "a");
        desk.useImplication(0, 1);
        CHECK.same("promise 27: the first lemma", desk.keepLemma(), 0);
        CHECK.same("promise 27: the proof stays", desk.lines(), 3);
        desk.repeat(0);
        CHECK.same("promise 27: the second lemma", desk.keepLemma(), 1);
        CHECK.same("promise 27: the first conclusion", Desks.symbols(desk, desk.conclusionOf(0)), "b");
        CHECK.same("promise 27: the second conclusion", Desks.symbols(desk, desk.conclusionOf(1)), "Cab");
        desk.assume(0);
        desk.closeBox();
        desk.repeat(1);
        CHECK.same("promise 27: a box before the last line", desk.keepLemma(), 2);
        DeductionDesk late = Desks.proving("a");
        late.repeat(0);
        late.premise(Desks.make(late, "Nb"));
        late.keepLemma();
        late.newProof();
        late.premise(Desks.make(late, "c"));
        late.premise(Desks.make(late, "NNd"));
        CHECK.same("promise 27: premises in their order", Desks.shown(late, late.useLemma(0, 0, 1)), "NNd");
        CHECK.refuses("promise 27: not in another one", SHAPE, () -> {
            DeductionDesk x = Desks.proving("a", "Nb");
            x.keepLemma();
            x.newProof();
            x.premise(Desks.make(x, "c"));
            x.premise(Desks.make(x, "NNd"));
            return x;
        }, x -> x.useLemma(0, 1, 0));
    }

    private static void testKeepLemmaRefused() {
        CHECK.refuses("promise 27: no lines", NO_SUCH, DeductionDesk::new, x -> x.keepLemma());
        CHECK.refuses("promise 27: no lines in a new proof", NO_SUCH, LemmaTest::modusPonens, x -> x.keepLemma());
        CHECK.refuses("promise 27: in an open box", SHAPE, () -> {
            DeductionDesk x = Desks.proving("a");
            x.assume(0);
            return x;
        }, x -> x.keepLemma());
        CHECK.refuses("promise 27: in a closed box", SHAPE, () -> {
            DeductionDesk x = Desks.proving("a");
            x.assume(0);
            x.closeBox();
            return x;
        }, x -> x.keepLemma());
        CHECK.refuses("promise 27: three premises", SHAPE, () -> Desks.proving("a", "a", "a"), x -> x.keepLemma());
        CHECK.refuses("promise 27: 8 lemmas", STATE, () -> eightLemmas(2), x -> x.keepLemma());
        CHECK.refuses("promise 27: 8 lemmas, three premises", SHAPE, () -> eightLemmas(3), x -> x.keepLemma());
        CHECK.refuses("promise 27: 8 lemmas, no lines", NO_SUCH, () -> eightLemmas(0), x -> x.keepLemma());
    }

    private static void testUseLemma() {
        DeductionDesk desk = modusPonens("CNcKde", "Nc", "a");
        CHECK.same("promise 28: its number", desk.useLemma(0, 0, 1), 3);
        CHECK.same("promise 28: its formula", Desks.shown(desk, 3), "Kde");
        CHECK.same("promise 28: its rule", String.valueOf(desk.ruleOf(3)), "L");
        CHECK.same("promise 28: both lines are needed", desk.needed(), 3);
        desk.assume(desk.formulaOf(0));
        desk.useLemma(0, 4, 1);
        CHECK.same("promise 28: in a box", desk.depthOf(5), 1);

        DeductionDesk none = weakening();
        CHECK.same("promise 28: without premises, no line is looked at", none.useLemma(0, -1, Integer.MAX_VALUE), 0);
        CHECK.same("promise 28: without premises, its formula", Desks.shown(none, 0), "CaCba");
        none.useLemma(0, 0, 0);
        CHECK.same("promise 28: lines that are not looked at are not cited", none.needed(), 1);

        DeductionDesk one = fromFalsum("Kaa");
        CHECK.same("promise 28: with one premise, one line is looked at", one.useLemma(0, 0, Integer.MIN_VALUE), 1);
        CHECK.same("promise 28: with one premise, its formula", Desks.shown(one, 1), "Kaa");
        one.repeat(0);
        one.useLemma(0, 2, 1);
        CHECK.same("promise 28: the other line is not cited", one.needed(), 3);

        DeductionDesk same = Desks.proving("a", "a");
        same.keepLemma();
        same.newProof();
        same.premise(Desks.make(same, "b"));
        CHECK.same("promise 28: one line twice", Desks.shown(same, same.useLemma(0, 0, 0)), "b");
    }

    private static void testBindings() {
        DeductionDesk desk = weakening();
        desk.bind(0, Desks.make(desk, "Kab"));
        desk.useLemma(0, 9, 9);
        CHECK.same("promise 28: a letter that is bound, and one that is not", Desks.shown(desk, 0), "CKabCbKab");
        desk.bind(1, Desks.make(desk, "Na"));
        desk.useLemma(0, 9, 9);
        CHECK.same("promise 28: both letters at once", Desks.shown(desk, 1), "CKabCNaKab");
        desk.bind(0, desk.letter(0));
        desk.useLemma(0, 9, 9);
        CHECK.same("promise 28: a letter that is bound to itself", Desks.shown(desk, 2), "CaCNaa");

        DeductionDesk one = using("a", "Kab", "Nb");
        one.bind(0, Desks.make(one, "c"));
        one.useLemma(0, 1, 0);
        CHECK.same("promise 28: a letter of a premise takes no binding", Desks.shown(one, 2), "KNbb");
        one.bind(1, Desks.make(one, "Acc"));
        one.useLemma(0, 1, 0);
        CHECK.same("promise 28: a letter of the conclusion alone takes one", Desks.shown(one, 3), "KNbAcc");
        one.newProof();
        one.premise(Desks.make(one, "d"));
        one.premise(one.falsum());
        one.useLemma(0, 0, 1);
        CHECK.same("promise 28: bindings stay", Desks.shown(one, 2), "KdAcc");
    }

    /** Premises of all kinds, and lines that fit and that do not. */
    private static void testInstances() {
        String[][] cases = {
            // the premise, the conclusion, the line, what is entered
            {"a", "b", "Kcd", "b"}, {"a", "Na", "Kcd", "NKcd"}, {"a", "F", "b", "F"},
            {"Kab", "Cba", "KNcAdF", "CAdFNc"}, {"Kaa", "a", "Kcc", "c"}, {"Kaa", "a", "Kcd", ""},
            {"Kab", "b", "Acd", ""}, {"Kab", "b", "Ccd", ""}, {"Kab", "b", "c", ""}, {"Kab", "b", "F", ""},
            {"NNa", "a", "NNNb", "Nb"}, {"NNa", "a", "Nb", ""}, {"NNa", "a", "NKbb", ""}, {"NF", "a", "NF", "a"},
            {"NF", "a", "Nb", ""}, {"F", "b", "F", "b"}, {"F", "b", "a", ""}, {"F", "b", "NF", ""},
            {"CaCba", "Kab", "CNcCdNc", "KNcd"}, {"CaCba", "Kab", "CNcCdc", ""}, {"Aab", "Aba", "Acc", "Acc"},
            {"AaNa", "a", "AbNb", "b"}, {"AaNa", "a", "ANbb", ""}, {"AaNa", "a", "ANbNNb", "Nb"},
            {"KaKba", "b", "KcKdc", "d"}, {"KaKba", "b", "KKcdKbKcd", "b"}, {"KaKba", "b", "KKcdKbKdc", ""},
            {"KKaba", "b", "KKcdd", ""}, {"KKabKab", "Kba", "KKcdKcd", "Kdc"}, {"KKabKba", "a", "KKcdKcd", ""},
            {"KaNa", "a", "KFNF", "F"}, {"KaF", "a", "KFF", "F"}, {"KaF", "a", "KFa", ""}};
        for (String[] each : cases) {
            String what = "promise 28: " + each[0] + " with the line " + each[2];
            if (each[3].isEmpty()) {
                CHECK.refuses(what, SHAPE, () -> using(each[0], each[1], each[2]), x -> x.useLemma(0, 1, 0));
            } else {
                DeductionDesk desk = using(each[0], each[1], each[2]);
                CHECK.same(what, Desks.shown(desk, desk.useLemma(0, 1, 0)), each[3]);
            }
        }
    }

    /** Lemmas of one premise, in which falsum is the first formula that becomes known. */
    private static void testFalsumInPremises() {
        String[][] cases = {{"F", "F", "fits"}, {"F", "a", ""}, {"NF", "NF", "fits"}, {"NF", "Na", ""},
            {"KFa", "KFb", "fits"}, {"KFa", "Kbb", ""}, {"KFa", "KKFFF", ""}, {"AFF", "Aaa", ""}};
        for (String[] each : cases) {
            Supplier<DeductionDesk> prepare = () -> {
                DeductionDesk x = Desks.proving(each[0]);
                x.keepLemma();
                x.newProof();
                x.premise(Desks.make(x, each[1]));
                return x;
            };
            if (each[2].equals("fits")) {
                CHECK.same("promise 28: " + each[0] + " with " + each[1], prepare.get().useLemma(0, 0, 0), 1);
            } else {
                CHECK.refuses("promise 28: " + each[0] + " with " + each[1], SHAPE, prepare,
                        x -> x.useLemma(0, 0, 0));
            }
        }
    }

    private static void testTwoPremises() {
        String[] premises = {"CNca", "c", "Nc"};
        for (int i = 0; i < 9; i++) {
            int line = i / 3;
            int other = i % 3;
            if (line == 0 && other == 2) {
                DeductionDesk desk = modusPonens(premises);
                int formulas = desk.formulas();
                CHECK.same("promise 28: lines that agree", Desks.shown(desk, desk.useLemma(0, 0, 2)), "a");
                CHECK.same("promise 28: no formula is made again", desk.formulas(), formulas);
            } else {
                CHECK.refuses("promise 28: lines " + line + " and " + other + " do not agree", SHAPE,
                        () -> modusPonens(premises), x -> x.useLemma(0, line, other));
            }
        }
    }

    private static void testNewFormulas() {
        DeductionDesk desk = using("a", "KNaNb", "Kcd");
        int before = desk.formulas();
        desk.bind(1, Desks.make(desk, "d"));
        CHECK.same("promise 28: the instance", Desks.shown(desk, desk.useLemma(0, 1, 0)), "KNKcdNd");
        CHECK.same("promise 28: its parts become known", desk.formulas(), before + 3);
        CHECK.same("promise 28: the left part first", Desks.symbols(desk, before), "NKcd");
        CHECK.same("promise 28: then the right one", Desks.symbols(desk, before + 1), "Nd");
        CHECK.same("promise 28: then the whole", Desks.symbols(desk, before + 2), "KNKcdNd");
        // Here the right part of the lemma's conclusion has become known before the left one.
        DeductionDesk turned = new DeductionDesk();
        Desks.make(turned, "ANbNNa");
        Desks.make(turned, "CNNaNb");
        keep(turned, "a", "CNNaNb");
        turned.premise(Desks.make(turned, "c"));
        turned.premise(turned.falsum());
        turned.bind(1, turned.formulaOf(0));
        int known = turned.formulas();
        turned.useLemma(0, 0, 1);
        CHECK.same("promise 28: the left part of the left part", Desks.symbols(turned, known), "Nc");
        CHECK.same("promise 28: the left part", Desks.symbols(turned, known + 1), "NNc");
        CHECK.same("promise 28: the whole", Desks.symbols(turned, known + 2), "CNNcNc");
    }

    private static void testUseLemmaRefused() {
        Supplier<DeductionDesk> lines = () -> {
            DeductionDesk x = modusPonens("Cab", "a");
            x.assume(Desks.make(x, "Cab"));
            x.closeBox();
            return x;
        };
        for (int odd : new int[] {-1, 1, 8, Integer.MIN_VALUE, Integer.MAX_VALUE}) {
            CHECK.refuses("promise 28: lemma " + odd, INDEX, lines, x -> x.useLemma(odd, 0, 1));
        }
        CHECK.refuses("promise 28: no lemma at all", INDEX, () -> Desks.proving("a"), x -> x.useLemma(0, 0, 0));
        for (int odd : new int[] {-1, 3, 60, Integer.MIN_VALUE, Integer.MAX_VALUE}) {
            CHECK.refuses("promise 28: first line " + odd, INDEX, lines, x -> x.useLemma(0, odd, 1));
            CHECK.refuses("promise 28: second line " + odd, INDEX, lines, x -> x.useLemma(0, 0, odd));
            CHECK.refuses("promise 28: second line " + odd + ", first", INDEX, lines, x -> x.useLemma(0, 2, odd));
            CHECK.refuses("promise 28: the only line " + odd, INDEX, () -> {
                DeductionDesk x = fromFalsum("a");
                x.repeat(0);
                x.repeat(0);
                return x;
            }, x -> x.useLemma(0, odd, 0));
        }
        CHECK.refuses("promise 28: the first line not cited", NO_SUCH, lines, x -> x.useLemma(0, 2, 1));
        CHECK.refuses("promise 28: the second line not cited", NO_SUCH, lines, x -> x.useLemma(0, 0, 2));
        CHECK.refuses("promise 28: not cited, before the shape", NO_SUCH, lines, x -> x.useLemma(0, 1, 2));
        CHECK.refuses("promise 28: the lines exchanged", SHAPE, lines, x -> x.useLemma(0, 1, 0));
        Supplier<DeductionDesk> full = () -> Desks.fillLines(lines.get(), 0);
        CHECK.refuses("promise 28: the 61st line", STATE, full, x -> x.useLemma(0, 0, 1));
        CHECK.refuses("promise 28: the shape, before the 61st line", SHAPE, full, x -> x.useLemma(0, 1, 0));
        CHECK.refuses("promise 28: not cited, before the 61st line", NO_SUCH, full, x -> x.useLemma(0, 2, 1));
    }

    private static void testLimitsOfInstances() {
        String half = "N".repeat(13) + "c";
        DeductionDesk large = using("a", "KaNa", half);
        CHECK.same("promise 28: size 30", large.sizeOf(large.formulaOf(large.useLemma(0, 1, 0))), 30);
        CHECK.refuses("promise 28: size 31", STATE, () -> using("a", "KaNNa", half), x -> x.useLemma(0, 1, 0));
        String thirty = "N".repeat(29) + "c";
        DeductionDesk whole = using("a", "a", thirty);
        CHECK.same("promise 28: the line itself", Desks.shown(whole, whole.useLemma(0, 1, 0)), thirty);
        CHECK.refuses("promise 28: size 31 of a line of 30", STATE, () -> using("a", "Na", thirty),
                x -> x.useLemma(0, 1, 0));
        CHECK.refuses("promise 28: size 60 and more", STATE, () -> using("a", "KaKaKaKaKaKaKaKaKaKaKaa", thirty),
                x -> x.useLemma(0, 1, 0));
        CHECK.refuses("promise 28: size 31 by a binding", STATE, () -> {
            DeductionDesk x = fromFalsum("Na");
            x.bind(0, Desks.make(x, thirty));
            return x;
        }, x -> x.useLemma(0, 0, 0));

        // Three new formulas are due, Nc, Ne and KNcNe, where there is room for one alone.
        Supplier<DeductionDesk> tight = () -> withRoomForOne(using("Aab", "KNaNb", "Ace"));
        CHECK.same("promise 28: 149 formulas", tight.get().formulas(), 149);
        CHECK.refuses("promise 28: the 151st formula", STATE, tight, x -> x.useLemma(0, 1, 0));
        CHECK.refuses("promise 28: a new one beside 150", STATE,
                () -> Desks.fillFormulas(using("Aab", "Kba", "Acd")), x -> x.useLemma(0, 1, 0));
        DeductionDesk simple = Desks.fillFormulas(using("Aab", "b", "Acd"));
        CHECK.same("promise 28: the conclusion is known among 150", Desks.shown(simple, simple.useLemma(0, 1, 0)),
                "d");
    }

    /** Makes formulas, but no negations, until 149 are known. */
    private static DeductionDesk withRoomForOne(DeductionDesk desk) {
        int before = desk.formulas();
        int count = before;
        for (int i = 0; i < 2 * before * before && count < 149; i++) {
            int left = i / 2 / before;
            int right = i / 2 % before;
            int made = i % 2 == 0 ? desk.implication(left, right) : desk.disjunction(left, right);
            count = made == count ? count + 1 : count;
        }
        return desk;
    }

    private static void testLemmas() {
        DeductionDesk desk = new DeductionDesk();
        CHECK.same("promise 29: none", desk.lemmas(), 0);
        desk.premise(desk.letter(0));
        for (int i = 1; i <= 8; i++) {
            desk.keepLemma();
            CHECK.same("promise 29: lemmas", desk.lemmas(), i);
        }
        desk.newProof();
        CHECK.same("promise 29: they stay", desk.lemmas(), 8);
    }

    private static void testConclusionOf() {
        DeductionDesk desk = Desks.proving("Kab", "c");
        for (int i = 0; i < 8; i++) {
            desk.repeat(i % 2);
            desk.keepLemma();
        }
        for (int i = 0; i < 8; i++) {
            CHECK.same("promise 30: conclusion " + i, Desks.symbols(desk, desk.conclusionOf(i)),
                    i % 2 == 0 ? "Kab" : "c");
        }
        desk.newProof();
        CHECK.same("promise 30: it stays", desk.conclusionOf(0), 2);
        for (int odd : new int[] {-1, 1, 8, Integer.MIN_VALUE, Integer.MAX_VALUE}) {
            CHECK.refuses("promise 30: lemma " + odd, INDEX, LemmaTest::modusPonens, x -> x.conclusionOf(odd));
        }
        CHECK.refuses("promise 30: no lemma at all", INDEX, () -> Desks.proving("a"), x -> x.conclusionOf(0));
    }
}
