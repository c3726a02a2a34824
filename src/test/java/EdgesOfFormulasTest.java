import java.util.function.BiFunction;
import java.util.function.Supplier;

/** Promises 1 to 11: each sentence that names a boundary case, with a test of its own. */
public final class EdgesOfFormulasTest {
    private static final String NO_FORMULA = "Throws `IndexOutOfBoundsException` if there is no such formula";
    private static final String NO_LETTER = "Throws `IllegalArgumentException` if the letter is out of range";
    private static final String FOURTEEN = "N".repeat(13) + "a";
    private static final String FIFTEEN = "N".repeat(14) + "a";
    private static final Edges EDGES = new Edges("EdgesOfFormulasTest");
    private static final Check CHECK = EDGES.check();

    private EdgesOfFormulasTest() {
    }

    public static void main(String[] args) {
        testNewObject();
        testLetter();
        testFalsum();
        testNegation();
        testConnective("Promise 5: conjunction", "a conjunction", "K", (x, n) -> x.conjunction(n[0], n[1]));
        testConnective("Promise 6: disjunction", "a disjunction", "A", (x, n) -> x.disjunction(n[0], n[1]));
        testConnective("Promise 7: implication", "an implication", "C", (x, n) -> x.implication(n[0], n[1]));
        testFormulas();
        testSizeOf();
        testSymbolAt();
        testBind();
        EDGES.end();
    }

    /** A desk with 150 formulas, of which the first ones are these; the others are made of the letter e. */
    private static Supplier<DeductionDesk> full(String... formulas) {
        return () -> Desks.fillWith(Desks.with(formulas), 4, 150);
    }

    private static Supplier<DeductionDesk> roomForOne(String... formulas) {
        return () -> Desks.fillWith(Desks.with(formulas), 4, 149);
    }

    private static void testNewObject() {
        EDGES.section("Promise 1: A new object");
        EDGES.sentence("Creates a desk without formulas and lemmas, with an empty proof.", () -> {
            DeductionDesk desk = new DeductionDesk();
            CHECK.same("formulas", desk.formulas(), 0);
            CHECK.same("lemmas", desk.lemmas(), 0);
            CHECK.same("lines", desk.lines(), 0);
            CHECK.same("boxes", desk.boxes(), 0);
            CHECK.same("lines given up", desk.newProof(), 0);
            CHECK.outcomes("a formula", DeductionDesk::new, -1, "II", (x, n) -> x.models(n));
            CHECK.outcomes("a lemma", DeductionDesk::new, -1, "II", (x, n) -> x.useLemma(n, 0, 0));
            CHECK.outcomes("a line", DeductionDesk::new, -1, "II", (x, n) -> x.repeat(n));
            CHECK.outcomes("a box", DeductionDesk::new, -1, "II", (x, n) -> x.makeImplication(n));
            CHECK.outcome("closing", 'S', DeductionDesk::new, x -> x.closeBox());
            CHECK.outcome("keeping", 'N', DeductionDesk::new, x -> x.keepLemma());
            CHECK.outcome("what is needed", 'N', DeductionDesk::new, x -> x.needed());
            CHECK.outcome("a mean", 'M', DeductionDesk::new, x -> x.meanSize());
            for (int letter = 0; letter < 5; letter++) {
                CHECK.same("a binding", Desks.with("a").bind(letter, 0), -1);
            }
            Desks.fillWith(new DeductionDesk(), 4, 150);
            CHECK.same("formulas of another desk", new DeductionDesk().formulas(), 0);
        });
    }

    private static void testLetter() {
        EDGES.section("Promise 2: letter");
        EDGES.noEdge("Makes the formula that is a letter.");
        EDGES.sentence("- `letter`: the letter, 0 to 4", () -> {
            for (int letter = 0; letter < 5; letter++) {
                DeductionDesk desk = Desks.with("F");
                CHECK.same("the number of letter " + letter, desk.letter(letter), 1);
                CHECK.same("the symbol of letter " + letter, desk.symbolAt(1, 0), "abcde".charAt(letter));
            }
        });
        EDGES.sentence("Returns the number of the formula.", () -> {
            CHECK.same("the first one", new DeductionDesk().letter(4), 0);
            CHECK.same("the 150th one", roomForOne("a").get().letter(3), 149);
            CHECK.same("a known one", full("F", "d").get().letter(3), 1);
        });
        EDGES.sentence(NO_LETTER, () -> {
            CHECK.outcomes("a letter", DeductionDesk::new, -1, "A.....A", (x, n) -> x.letter(n));
            CHECK.outcomes("a letter among 150", full("a"), -1, "A.SSS.A", (x, n) -> x.letter(n));
        });
        EDGES.sentence("Throws `IllegalStateException` if the formula cannot be made", () -> {
            CHECK.outcome("the 150th formula", '.', roomForOne("a"), x -> x.letter(3));
            CHECK.outcome("the 151st formula", 'S', full("a"), x -> x.letter(3));
            CHECK.outcome("known among 150", '.', full("a"), x -> x.letter(0));
        });
    }

    private static void testFalsum() {
        EDGES.section("Promise 3: falsum");
        EDGES.noEdge("Makes falsum.");
        EDGES.sentence("Returns the number of the formula.", () -> {
            CHECK.same("the first one", new DeductionDesk().falsum(), 0);
            CHECK.same("the 150th one", roomForOne("a").get().falsum(), 149);
            CHECK.same("a known one", full("a", "F").get().falsum(), 1);
        });
        EDGES.sentence("Throws `IllegalStateException` if the formula cannot be made", () -> {
            CHECK.outcome("the 150th formula", '.', roomForOne("a"), x -> x.falsum());
            CHECK.outcome("the 151st formula", 'S', full("a"), x -> x.falsum());
            CHECK.outcome("known among 150", '.', full("a", "F"), x -> x.falsum());
        });
    }

    private static void testNegation() {
        EDGES.section("Promise 4: negation");
        EDGES.noEdge("Makes the negation of a formula.", "- `formula`: the number of the formula");
        EDGES.sentence("Returns the number of the negation.", () -> {
            CHECK.same("the second one", Desks.with("a").negation(0), 1);
            CHECK.same("the 150th one", roomForOne("a").get().negation(148), 149);
            CHECK.same("a known one", full("F", "NF").get().negation(0), 1);
        });
        EDGES.sentence(NO_FORMULA, () -> {
            CHECK.outcomes("among none", DeductionDesk::new, -1, "II", (x, n) -> x.negation(n));
            CHECK.outcomes("among two", () -> Desks.with("a", "b"), -1, "I..I", (x, n) -> x.negation(n));
            CHECK.outcomes("among 150", full("a"), -1, "I" + "S".repeat(150) + "I", (x, n) -> x.negation(n));
        });
        EDGES.sentence("Throws `IllegalStateException` if the negation cannot be made", () -> {
            Supplier<DeductionDesk> chain = () -> Desks.with("N".repeat(29) + "a", "N".repeat(28) + "b");
            CHECK.outcome("size 29", '.', chain, x -> x.negation(57));
            CHECK.outcome("size 30", '.', chain, x -> x.negation(58));
            CHECK.outcome("size 30 that is known", '.', chain, x -> x.negation(28));
            CHECK.outcome("size 31", 'S', chain, x -> x.negation(29));
            CHECK.outcome("the 150th formula", '.', roomForOne("a"), x -> x.negation(0));
            CHECK.outcome("the 151st formula", 'S', full("a"), x -> x.negation(0));
            CHECK.outcome("known among 150", '.', full("Na"), x -> x.negation(0));
        });
    }

    /** The call gets the numbers of a left and a right formula. */
    private static void testConnective(String section, String name, String symbol,
            BiFunction<DeductionDesk, int[], Integer> call) {
        String noun = name.substring(name.indexOf(' ') + 1);
        EDGES.section(section);
        EDGES.noEdge("Makes " + name + ".");
        EDGES.sentence("- `left`: the number of the left formula", () -> {
            DeductionDesk desk = Desks.with("a", "b");
            CHECK.same("the first formula on the left", Desks.symbols(desk, call.apply(desk, new int[] {0, 1})),
                    symbol + "ab");
            CHECK.same("the same formula twice", Desks.symbols(desk, call.apply(desk, new int[] {0, 0})),
                    symbol + "aa");
        });
        EDGES.sentence("- `right`: the number of the right formula", () -> {
            DeductionDesk desk = Desks.with("a", "b");
            CHECK.same("the first formula on the right", Desks.symbols(desk, call.apply(desk, new int[] {1, 0})),
                    symbol + "ba");
            CHECK.same("the same formula twice", Desks.symbols(desk, call.apply(desk, new int[] {1, 1})),
                    symbol + "bb");
        });
        EDGES.sentence("Returns the number of the " + noun + ".", () -> {
            CHECK.same("the second one", call.apply(Desks.with("a"), new int[] {0, 0}), 1);
            CHECK.same("the 150th one", call.apply(roomForOne("a").get(), new int[] {0, 0}), 149);
            CHECK.same("a known one", call.apply(full("b", symbol + "bb").get(), new int[] {0, 0}), 1);
        });
        EDGES.sentence("Throws `IndexOutOfBoundsException` if there is no such formula, for either", () -> {
            CHECK.outcomes("the left one", () -> Desks.with("a", "b"), -1, "I..I",
                    (x, n) -> call.apply(x, new int[] {n, 1}));
            CHECK.outcomes("the right one", () -> Desks.with("a", "b"), -1, "I..I",
                    (x, n) -> call.apply(x, new int[] {0, n}));
            CHECK.outcomes("both", () -> Desks.with("a", "b"), -1, "I..I",
                    (x, n) -> call.apply(x, new int[] {n, n}));
            CHECK.outcomes("the left one among 150", full("a"), -1, "I" + "S".repeat(150) + "I",
                    (x, n) -> call.apply(x, new int[] {n, 0}));
        });
        EDGES.sentence("Throws `IllegalStateException` if the " + noun + " cannot be made", () -> {
            Supplier<DeductionDesk> large = () -> Desks.with(FIFTEEN);
            CHECK.outcome("size 29", '.', large, x -> call.apply(x, new int[] {13, 13}));
            CHECK.outcome("size 30 with a large left formula", '.', large, x -> call.apply(x, new int[] {14, 13}));
            CHECK.outcome("size 30 with a large right formula", '.', large, x -> call.apply(x, new int[] {13, 14}));
            CHECK.outcome("size 31", 'S', large, x -> call.apply(x, new int[] {14, 14}));
            CHECK.outcome("size 61", 'S', () -> Desks.with("N".repeat(15) + FIFTEEN),
                    x -> call.apply(x, new int[] {29, 29}));
            CHECK.outcome("size 32 with a letter", 'S', () -> Desks.with("N".repeat(15) + FIFTEEN),
                    x -> call.apply(x, new int[] {0, 29}));
            CHECK.outcome("the 150th formula", '.', roomForOne("a", "b"), x -> call.apply(x, new int[] {0, 1}));
            CHECK.outcome("the 151st formula", 'S', full("a", "b"), x -> call.apply(x, new int[] {0, 1}));
            CHECK.outcome("known among 150", '.', full("a", "b", symbol + "ab"),
                    x -> call.apply(x, new int[] {0, 1}));
            CHECK.outcome("size 30 and known among 150", '.', full(FIFTEEN, symbol + FOURTEEN + FIFTEEN),
                    x -> call.apply(x, new int[] {13, 14}));
        });
    }

    private static void testFormulas() {
        EDGES.section("Promise 8: formulas");
        EDGES.sentence("Returns the number of formulas that are known.", () -> {
            CHECK.same("none", new DeductionDesk().formulas(), 0);
            CHECK.same("one", Desks.with("F").formulas(), 1);
            CHECK.same("the same once more", Desks.with("F", "F").formulas(), 1);
            CHECK.same("149", roomForOne("a").get().formulas(), 149);
            CHECK.same("150", full("a").get().formulas(), 150);
            DeductionDesk refused = full("a").get();
            CHECK.same("one more is refused", Check.outcomeOf(refused, x -> x.falsum()), 'S');
            CHECK.same("150 still", refused.formulas(), 150);
        });
        EDGES.noEdge("Returns the number of formulas.");
    }

    private static void testSizeOf() {
        EDGES.section("Promise 9: sizeOf");
        EDGES.noEdge("Returns the size of a formula.", "- `formula`: the number of the formula");
        EDGES.sentence("Returns the size.", () -> {
            CHECK.same("a letter", Desks.with("a").sizeOf(0), 1);
            CHECK.same("falsum", Desks.with("F").sizeOf(0), 1);
            DeductionDesk chain = Desks.with("N".repeat(29) + "a");
            for (int formula = 0; formula < 30; formula++) {
                CHECK.same("a negation", chain.sizeOf(formula), formula + 1);
            }
            DeductionDesk large = Desks.with(FIFTEEN, "K" + FOURTEEN + FIFTEEN);
            CHECK.same("30 with two formulas", large.sizeOf(15), 30);
        });
        EDGES.sentence(NO_FORMULA, () -> {
            CHECK.outcomes("among none", DeductionDesk::new, -1, "II", (x, n) -> x.sizeOf(n));
            CHECK.outcomes("among two", () -> Desks.with("a", "b"), -1, "I..I", (x, n) -> x.sizeOf(n));
            CHECK.outcomes("among 150", full("a"), -1, "I" + ".".repeat(150) + "I", (x, n) -> x.sizeOf(n));
        });
    }

    private static void testSymbolAt() {
        EDGES.section("Promise 10: symbolAt");
        EDGES.noEdge("Returns a symbol of a formula.", "- `formula`: the number of the formula");
        EDGES.sentence("- `index`: the index of the symbol, from 0", () -> {
            DeductionDesk desk = Desks.with("KaNb");
            CHECK.same("the first symbol", desk.symbolAt(3, 0), 'K');
            CHECK.same("the last symbol", desk.symbolAt(3, 3), 'b');
        });
        EDGES.sentence("Returns the symbol.", () -> {
            DeductionDesk desk = Desks.with("CAKabNcAFd", "N".repeat(29) + "e");
            int first = Desks.make(desk, "CAKabNcAFd");
            CHECK.same("all kinds of symbols", Desks.symbols(desk, first), "CAKabNcAFd");
            CHECK.same("the first of 30", desk.symbolAt(desk.formulas() - 1, 0), 'N');
            CHECK.same("the last of 30", desk.symbolAt(desk.formulas() - 1, 29), 'e');
            CHECK.same("the only one", desk.symbolAt(0, 0), 'a');
        });
        EDGES.sentence(NO_FORMULA, () -> {
            CHECK.outcomes("among none", DeductionDesk::new, -1, "II", (x, n) -> x.symbolAt(n, 0));
            CHECK.outcomes("among two", () -> Desks.with("a", "b"), -1, "I..I", (x, n) -> x.symbolAt(n, 0));
            CHECK.outcomes("among 150", full("a"), -1, "I" + ".".repeat(150) + "I", (x, n) -> x.symbolAt(n, 0));
            CHECK.outcomes("and no symbol", () -> Desks.with("a", "b"), -1, "INNI", (x, n) -> x.symbolAt(n, -1));
        });
        EDGES.sentence("Throws `NoSuchElementException` if it has no such symbol", () -> {
            CHECK.outcomes("one symbol", () -> Desks.with("a", "b"), -1, "N.N", (x, n) -> x.symbolAt(0, n));
            CHECK.outcomes("four symbols", () -> Desks.with("KaNb", "c"), -1, "N....N", (x, n) -> x.symbolAt(3, n));
            CHECK.outcomes("30 symbols", () -> Desks.with("N".repeat(29) + "a", "Kaa"), -1,
                    "N" + ".".repeat(30) + "N", (x, n) -> x.symbolAt(29, n));
            CHECK.outcomes("the last of 150", full("a"), -1, "N" + ".".repeat(full("a").get().sizeOf(149)) + "N",
                    (x, n) -> x.symbolAt(149, n));
        });
    }

    private static void testBind() {
        EDGES.section("Promise 11: bind");
        EDGES.sentence("Binds a letter to a formula for the lemmas that are used from now on.", () -> {
            DeductionDesk desk = Desks.closed(Desks.with("b"), "a");
            desk.makeImplication(0);
            desk.keepLemma();
            desk.useLemma(0, 0, 0);
            desk.bind(0, 0);
            desk.useLemma(0, 0, 0);
            desk.bind(0, 1);
            desk.useLemma(0, 0, 0);
            CHECK.same("the conclusion of the lemma", Desks.symbols(desk, desk.conclusionOf(0)), "Caa");
            CHECK.same("a line before", Desks.shown(desk, 2), "Caa");
            CHECK.same("a line behind", Desks.shown(desk, 3), "Cbb");
            CHECK.same("a line behind another binding", Desks.shown(desk, 4), "Caa");
        });
        EDGES.sentence("- `letter`: the letter, 0 to 4", () -> {
            DeductionDesk desk = Desks.with("a", "b", "c", "d", "e");
            for (int letter = 0; letter < 5; letter++) {
                CHECK.same("at first", desk.bind(letter, 4 - letter), -1);
            }
            for (int letter = 0; letter < 5; letter++) {
                CHECK.same("each letter alone", desk.bind(letter, 0), 4 - letter);
            }
        });
        EDGES.noEdge("- `formula`: the number of the formula");
        EDGES.sentence("Returns the number of the formula to which it was bound before, or -1 if ..", () -> {
            DeductionDesk desk = Desks.with("a", "b");
            CHECK.same("not bound, though another letter is", desk.bind(1, 0) + desk.bind(0, 0), -2);
            CHECK.same("bound to formula 0", desk.bind(0, 1), 0);
            CHECK.same("bound to the last formula", desk.bind(0, 1), 1);
            CHECK.same("refused", Check.outcomeOf(desk, x -> x.bind(0, 2)), 'I');
            CHECK.same("bound as before", desk.bind(0, 0), 1);
            DeductionDesk last = full("a").get();
            CHECK.same("the first of 150", last.bind(4, 149), -1);
            CHECK.same("the last of 150", last.bind(4, 0), 149);
        });
        EDGES.sentence(NO_LETTER, () -> {
            CHECK.outcomes("a letter", () -> Desks.with("a"), -1, "A.....A", (x, n) -> x.bind(n, 0));
            CHECK.outcomes("and no formula", () -> Desks.with("a"), -1, "AIIIIIA", (x, n) -> x.bind(n, 1));
        });
        EDGES.sentence(NO_FORMULA, () -> {
            CHECK.outcomes("among none", DeductionDesk::new, -1, "II", (x, n) -> x.bind(0, n));
            CHECK.outcomes("among two", () -> Desks.with("a", "b"), -1, "I..I", (x, n) -> x.bind(4, n));
            CHECK.outcomes("among 150", full("a"), -1, "I" + ".".repeat(150) + "I", (x, n) -> x.bind(4, n));
        });
    }
}
