import java.util.function.Supplier;

/** Promises 27 to 30: each sentence that names a boundary case, with a test of its own. */
public final class EdgesOfLemmasTest {
    private static final String THIRTY = "N".repeat(29) + "a";
    private static final Edges EDGES = new Edges("EdgesOfLemmasTest");
    private static final Check CHECK = EDGES.check();

    private EdgesOfLemmasTest() {
    }

    public static void main(String[] args) {
        testKeepLemma();
        testUseLemma();
        testLemmas();
        testConclusionOf();
        EDGES.end();
    }

    // ---- desks with lemmas

    /** Keeps one more lemma: falsum and the premises give the conclusion; begins a new proof. */
    private static DeductionDesk keep(DeductionDesk desk, String conclusion, String... premises) {
        desk.newProof();
        for (String each : premises) {
            desk.premise(Desks.make(desk, each));
        }
        desk.assume(desk.falsum());
        desk.fromFalsum(premises.length, Desks.make(desk, conclusion));
        desk.closeBox();
        desk.makeImplication(0);
        desk.keepLemma();
        desk.newProof();
        return desk;
    }

    /** Lemma 0 has no premise and the conclusion CFa, lemma 1 has a and CFb, and lemma 2 has a, Nb and CFKab. */
    private static DeductionDesk threeLemmas() {
        return keep(keep(keep(new DeductionDesk(), "a"), "b", "a"), "Kab", "a", "Nb");
    }

    private static Supplier<DeductionDesk> three(String... premises) {
        return () -> {
            DeductionDesk desk = threeLemmas();
            for (String each : premises) {
                desk.premise(Desks.make(desk, each));
            }
            return desk;
        };
    }

    /** Some lemmas that a follows from a, and then a new proof with these premises. */
    private static Supplier<DeductionDesk> keeping(int lemmas, String... premises) {
        return () -> {
            DeductionDesk desk = Desks.proving("a");
            for (int i = 0; i < lemmas; i++) {
                desk.keepLemma();
            }
            desk.newProof();
            for (String each : premises) {
                desk.premise(Desks.make(desk, each));
            }
            return desk;
        };
    }

    /** Tells which outcome the use of lemma 0 has with these lines. */
    private static void uses(String what, char due, DeductionDesk kept, int line, int other) {
        CHECK.same(what, Check.outcomeOf(kept, x -> x.useLemma(0, line, other)), due);
    }

    // ---- keeping

    private static void testKeepLemma() {
        EDGES.section("Promise 27: keepLemma");
        EDGES.sentence("Keeps the proof as a lemma: its premises are the formulas of all lines with premises, ..",
                EdgesOfLemmasTest::testPremisesOfLemmas);
        EDGES.sentence("The proof stays as it is.", () -> {
            DeductionDesk desk = Desks.proving("a", "Cab");
            Desks.closed(desk, "c");
            desk.useImplication(1, 0);
            for (int lemma = 0; lemma < 8; lemma++) {
                desk.keepLemma();
            }
            CHECK.same("lines", desk.lines(), 4);
            CHECK.same("boxes", desk.boxes(), 1);
            CHECK.same("what is needed", desk.needed(), 3);
            CHECK.same("formulas", desk.formulas(), 4);
            CHECK.same("the next line", desk.premise(0), 4);
            CHECK.same("its rule", desk.ruleOf(0), 'P');
            DeductionDesk full = Desks.fillLines(Desks.proving("a"), 0);
            full.keepLemma();
            CHECK.same("60 lines", full.lines(), 60);
        });
        EDGES.sentence("Returns the number of the lemma.", () -> {
            DeductionDesk desk = Desks.proving("a");
            for (int lemma = 0; lemma < 8; lemma++) {
                CHECK.same("the next one", desk.keepLemma(), lemma);
            }
        });
        EDGES.sentence("Throws `NoSuchElementException` if the proof has no lines", () -> {
            CHECK.outcome("a new desk", 'N', DeductionDesk::new, x -> x.keepLemma());
            CHECK.outcome("a new proof", 'N', keeping(1), x -> x.keepLemma());
            CHECK.outcome("a new proof and 8 lemmas", 'N', keeping(8), x -> x.keepLemma());
            CHECK.outcome("one line", '.', keeping(0, "a"), x -> x.keepLemma());
        });
        EDGES.sentence("Throws `UnsupportedOperationException` if the last line lies in a box, or there are more ..",
                EdgesOfLemmasTest::testProofsThatAreNotKept);
        EDGES.sentence("Throws `IllegalStateException` if there are 8 lemmas", () -> {
            for (int lemmas = 0; lemmas <= 8; lemmas++) {
                CHECK.outcome(lemmas + " lemmas", lemmas < 8 ? '.' : 'S', keeping(lemmas, "a"), x -> x.keepLemma());
            }
            CHECK.outcome("8 lemmas and two premises", 'S', keeping(8, "a", "a"), x -> x.keepLemma());
        });
    }

    private static void testPremisesOfLemmas() {
        DeductionDesk itself = Desks.proving("a");
        itself.keepLemma();
        CHECK.same("a conclusion that is the premise", itself.conclusionOf(0), 0);
        uses("one premise, the line", '.', itself, 0, -1);
        uses("one premise, no line", 'I', itself, -1, 0);
        DeductionDesk twice = Desks.proving("a", "a");
        twice.keepLemma();
        uses("the same premise twice, two lines", '.', twice, 0, 1);
        uses("the same premise twice, one line", 'I', twice, 0, -1);
        DeductionDesk none = Desks.closed(new DeductionDesk(), "a");
        none.makeImplication(0);
        none.keepLemma();
        uses("an assumption is no premise", '.', none, -1, -1);
        DeductionDesk late = Desks.closed(Desks.proving("Kab"), "c");
        late.premise(Desks.make(late, "Nb"));
        late.useConjunction(0, false);
        late.keepLemma();
        uses("premises between other lines", '.', late, 0, 2);
        uses("premises exchanged", 'U', late, 2, 0);
        late.repeat(0);
        late.keepLemma();
        CHECK.same("the conclusion stays", Desks.symbols(late, late.conclusionOf(0)), "a");
        CHECK.same("the conclusion of the longer proof", Desks.symbols(late, late.conclusionOf(1)), "Kab");
        DeductionDesk last = Desks.fillLines(Desks.proving("b", "a"), 1);
        last.keepLemma();
        CHECK.same("the conclusion of 60 lines", Desks.symbols(last, last.conclusionOf(0)), "a");
        DeductionDesk before = Desks.proving("a", "b", "c");
        before.newProof();
        before.premise(2);
        before.keepLemma();
        uses("premises of the proof before do not count", '.', before, 0, -1);
    }

    private static void testProofsThatAreNotKept() {
        CHECK.outcome("an open box", 'U', () -> {
            DeductionDesk x = Desks.with("a");
            x.assume(0);
            return x;
        }, x -> x.keepLemma());
        CHECK.outcome("a closed box", 'U', () -> Desks.closed(new DeductionDesk(), "a"), x -> x.keepLemma());
        CHECK.outcome("a closed box and 8 lemmas", 'U', () -> Desks.closed(keeping(8).get(), "a"), x -> x.keepLemma());
        CHECK.outcome("a closed box in an open one", 'U', () -> {
            DeductionDesk x = Desks.with("a");
            x.assume(0);
            return Desks.closed(x, "a");
        }, x -> x.keepLemma());
        CHECK.outcome("a line behind a closed box", '.', () -> {
            DeductionDesk x = Desks.closed(Desks.proving("a"), "b");
            x.repeat(0);
            return x;
        }, x -> x.keepLemma());
        CHECK.outcome("two premises", '.', () -> Desks.proving("a", "b"), x -> x.keepLemma());
        CHECK.outcome("three premises", 'U', () -> Desks.proving("a", "b", "c"), x -> x.keepLemma());
        CHECK.outcome("the same premise three times", 'U', () -> Desks.proving("a", "a", "a"), x -> x.keepLemma());
        CHECK.outcome("the third premise last of 60 lines", 'U', () -> {
            DeductionDesk x = Desks.fillLinesTo(Desks.proving("a", "b"), 0, 59);
            x.premise(0);
            return x;
        }, x -> x.keepLemma());
        CHECK.outcome("60 premises", 'U', () -> {
            DeductionDesk x = Desks.with("a");
            for (int i = 0; i < 60; i++) {
                x.premise(0);
            }
            return x;
        }, x -> x.keepLemma());
        CHECK.outcome("three premises and 8 lemmas", 'U', keeping(8, "a", "a", "a"), x -> x.keepLemma());
    }

    // ---- using

    private static void testUseLemma() {
        EDGES.section("Promise 28: useLemma");
        EDGES.sentence("Enters the conclusion of an instance of a lemma whose premises are the formulas ..", () -> {
            CHECK.enters("CFa", three(), x -> x.useLemma(0, 0, 0));
            CHECK.enters("CFb", three("Kcd"), x -> x.useLemma(1, 0, 0));
            CHECK.enters("CFKKcde", three("Kcd", "Ne"), x -> x.useLemma(2, 0, 1));
            CHECK.enters("CFKNcc", three("Nc"), x -> x.useLemma(2, 0, 0));
            CHECK.enters("CFKdc", three("Nc", "d"), x -> x.useLemma(2, 1, 0));
        });
        EDGES.sentence("The lines that are more than the premises of the lemma are not looked at; ..", () -> {
            CHECK.outcomes("no premise, the first line", three(), -1, "..", (x, n) -> x.useLemma(0, n, 0));
            CHECK.outcomes("no premise, the other line", three(), -1, "..", (x, n) -> x.useLemma(0, 0, n));
            CHECK.outcomes("no premise, both lines", three("a"), -1, "...", (x, n) -> x.useLemma(0, n, n));
            CHECK.outcomes("one premise, the other line", three("a"), -1, "...", (x, n) -> x.useLemma(1, 0, n));
            Supplier<DeductionDesk> closed = () -> Desks.closed(three("Kab").get(), "a");
            CHECK.outcome("no premise, a line that is not cited", '.', closed, x -> x.useLemma(0, 1, 1));
            CHECK.outcome("one premise, a line that is not cited", '.', closed, x -> x.useLemma(1, 0, 1));
            DeductionDesk desk = closed.get();
            desk.repeat(0);
            desk.useLemma(0, 2, 2);
            CHECK.same("no premise, no line is needed", desk.needed(), 1);
            desk.useLemma(1, 0, 2);
            CHECK.same("one premise, one line is needed", desk.needed(), 2);
            desk.useLemma(1, 2, 3);
            CHECK.same("one premise, a line and what it needs", desk.needed(), 3);
        });
        EDGES.noEdge("- `lemma`: the number of the lemma");
        EDGES.sentence("- `line`: the number of the line with the first premise of the instance", () -> {
            CHECK.outcomes("two premises", three("a", "Nb", "NNc"), -1, "I...I", (x, n) -> x.useLemma(2, n, 1));
            CHECK.enters("CFKNbb", three("a", "Nb", "NNc"), x -> x.useLemma(2, 1, 1));
        });
        EDGES.sentence("- `other`: the number of the line with the second premise of the instance", () -> {
            CHECK.outcomes("two premises", three("a", "Nb", "NNc"), -1, "IU..I", (x, n) -> x.useLemma(2, 0, n));
            CHECK.enters("CFKaNc", three("a", "Nb", "NNc"), x -> x.useLemma(2, 0, 2));
        });
        EDGES.sentence("Returns the number of the new line.", () -> {
            CHECK.same("the first line", threeLemmas().useLemma(0, 7, 7), 0);
            CHECK.newLine(x -> x.useLemma(0, 0, 0));
        });
        EDGES.sentence("Throws `IndexOutOfBoundsException` if there is no such lemma, or no such line among those ..",
                EdgesOfLemmasTest::testNoLemmaAndNoLine);
        EDGES.sentence("Throws `NoSuchElementException` if a line that is looked at cannot be cited", () -> {
            Supplier<DeductionDesk> one = () -> Desks.enterNested(keep(new DeductionDesk(), "c", "Na"), "a", "Nb");
            CHECK.notCited(one, "IU.NNNN...I", (x, n) -> x.useLemma(0, n, -1));
            Supplier<DeductionDesk> two = () -> Desks.enterNested(keep(new DeductionDesk(), "c", "a", "Nd"),
                    "a", "Nb");
            CHECK.notCited(two, "I..NNNN...I", (x, n) -> x.useLemma(0, n, 1));
            CHECK.notCited(two, "IU.NNNN...I", (x, n) -> x.useLemma(0, 1, n));
            CHECK.outcomes("the first one, and no instance", two, -1, "IUUNNNNUUUI", (x, n) -> x.useLemma(0, n, 0));
            CHECK.outcomes("the other one, the first one not cited", two, -1, "INNNNNNNNNI",
                    (x, n) -> x.useLemma(0, 3, n));
        });
        EDGES.sentence("Throws `UnsupportedOperationException` if there is no instance with these premises",
                EdgesOfLemmasTest::testNoInstance);
        EDGES.sentence("Throws `IllegalStateException` if there are 60 lines, or the conclusion of the instance ..",
                EdgesOfLemmasTest::testNoRoom);
    }

    private static void testNoLemmaAndNoLine() {
        CHECK.outcomes("no lemmas", () -> Desks.proving("a"), -1, "II", (x, n) -> x.useLemma(n, 0, 0));
        CHECK.outcomes("three lemmas", three("a", "Nb"), -1, "I...I", (x, n) -> x.useLemma(n, 0, 1));
        CHECK.outcomes("8 lemmas", keeping(8, "a"), -1, "I........I", (x, n) -> x.useLemma(n, 0, 0));
        CHECK.outcomes("8 lemmas, 60 lines", () -> Desks.fillLines(keeping(8, "a").get(), 0), -1, "ISSSSSSSSI",
                (x, n) -> x.useLemma(n, 0, 0));
        CHECK.outcome("no lemma and no line", 'I', three(), x -> x.useLemma(3, 0, 0));
        CHECK.outcomes("one premise, without lines", three(), -1, "II", (x, n) -> x.useLemma(1, n, 0));
        CHECK.outcomes("one premise", three("a", "b"), -1, "I..I", (x, n) -> x.useLemma(1, n, -1));
        CHECK.outcomes("two premises, the first one", three("a", "Nb"), -1, "I..I", (x, n) -> x.useLemma(2, n, 1));
        CHECK.outcomes("two premises, the other one", three("a", "Nb"), -1, "IU.I", (x, n) -> x.useLemma(2, 0, n));
        CHECK.outcomes("two premises, both", three("a", "Nb"), -1, "IU.I", (x, n) -> x.useLemma(2, n, n));
        CHECK.outcomes("the other one, the first one not cited", () -> Desks.closed(three("a", "Nb").get(), "a"), -1,
                "INNNI", (x, n) -> x.useLemma(2, 2, n));
    }

    private static void testNoInstance() {
        String[] lines = {"a", "F", "Nc", "NF", "Kcd", "Kcc", "KcNc", "KFc", "Acd", "Ccd", "NNc", "KNcNc"};
        String[][] cases = {
            {"a", "............"}, {"e", "............"}, {"F", "U.UUUUUUUUUU"}, {"Na", "UU..UUUUUU.U"},
            {"NF", "UUU.UUUUUUUU"}, {"Kab", "UUUU....UUU."}, {"Kaa", "UUUUU.UUUUU."}, {"KaNa", "UUUUUU.UUUUU"},
            {"KFa", "UUUUUUU.UUUU"}, {"Aab", "UUUUUUUU.UUU"}, {"Cab", "UUUUUUUUU.UU"}, {"Caa", "UUUUUUUUUUUU"},
            {"NNa", "UUUUUUUUUU.U"}, {"NNF", "UUUUUUUUUUUU"}, {"KNaNa", "UUUUUUUUUUU."}, {"KNaNb", "UUUUUUUUUUU."}};
        for (String[] each : cases) {
            CHECK.outcomes("the premise " + each[0], () -> {
                DeductionDesk x = keep(new DeductionDesk(), "b", each[0]);
                for (String line : lines) {
                    x.premise(Desks.make(x, line));
                }
                return x;
            }, -1, "I" + each[1] + "I", (x, n) -> x.useLemma(0, n, -1));
        }
        // Two premises that share letters, and two lines that can stand for them or not.
        String[][] pairs = {
            {"a", "a", "c", "c", "."}, {"a", "a", "c", "d", "U"}, {"a", "Na", "c", "Nc", "."},
            {"a", "Na", "c", "Nd", "U"}, {"Na", "a", "Nc", "c", "."}, {"Kab", "Kba", "Kcd", "Kdc", "."},
            {"Kab", "Kba", "Kcd", "Kcd", "U"}, {"Kab", "Kba", "Kcc", "Kcc", "."}, {"a", "b", "c", "c", "."},
            {"Aab", "NNb", "AcNd", "NNNd", "."}, {"Aab", "NNb", "AcNd", "NNd", "U"}, {"F", "a", "F", "F", "."},
            {"a", "F", "c", "d", "U"}};
        for (String[] each : pairs) {
            CHECK.outcome(String.join(" ", each), each[4].charAt(0), () -> {
                DeductionDesk x = keep(new DeductionDesk(), "e", each[0], each[1]);
                x.premise(Desks.make(x, each[2]));
                x.premise(Desks.make(x, each[3]));
                return x;
            }, x -> x.useLemma(0, 0, 1));
        }
        CHECK.outcome("a premise that is the last formula of all", 'U', () -> {
            DeductionDesk x = Desks.with("Kcd", "Kaa");
            x.premise(x.formulas() - 1);
            x.keepLemma();
            x.newProof();
            x.premise(2);
            return x;
        }, x -> x.useLemma(0, 0, 0));
        CHECK.outcome("no instance among 60 lines", 'U', () -> {
            DeductionDesk x = keep(new DeductionDesk(), "b", "Na");
            x.premise(Desks.make(x, "a"));
            return Desks.fillLines(x, 0);
        }, x -> x.useLemma(0, 59, 0));
    }

    private static void testNoRoom() {
        CHECK.sixty(x -> x.useLemma(0, 0, 0));
        Supplier<DeductionDesk> sizes = () -> {
            DeductionDesk x = keep(keep(new DeductionDesk(), "NKaa", "a"), "Kaa", "a");
            x.premise(Desks.make(x, THIRTY.substring(17)));
            x.premise(Desks.make(x, THIRTY.substring(16)));
            return x;
        };
        CHECK.outcomes("sizes 30 and 32", sizes, -1, "I.SI", (x, n) -> x.useLemma(0, n, -1));
        CHECK.outcomes("sizes 29 and 31", sizes, -1, "I.SI", (x, n) -> x.useLemma(1, n, -1));
        Supplier<DeductionDesk> two = () -> {
            DeductionDesk x = keep(new DeductionDesk(), "Kab", "a", "b");
            x.premise(Desks.make(x, THIRTY.substring(4)));
            x.premise(Desks.make(x, THIRTY.substring(3)));
            x.premise(Desks.make(x, "c"));
            return x;
        };
        CHECK.outcomes("sizes 30 and 31 with a letter at the end", two, -1, "I.S.I", (x, n) -> x.useLemma(0, n, 2));
        CHECK.outcomes("sizes 30 and 31 with a letter before", two, -1, "I.S.I", (x, n) -> x.useLemma(0, 2, n));
        Supplier<DeductionDesk> bound = () -> {
            DeductionDesk x = threeLemmas();
            Desks.make(x, THIRTY);
            return x;
        };
        CHECK.outcome("size 30 by a binding", '.', () -> binding(bound.get(), THIRTY.substring(2)),
                x -> x.useLemma(0, 0, 0));
        CHECK.outcome("size 31 by a binding", 'S', () -> binding(bound.get(), THIRTY.substring(1)),
                x -> x.useLemma(0, 0, 0));
        CHECK.outcome("size 32 by a binding", 'S', () -> binding(bound.get(), THIRTY), x -> x.useLemma(0, 0, 0));
        CHECK.outcome("a size above 400", 'S', () -> binding(keep(bound.get(), "K".repeat(13) + "a".repeat(14)),
                THIRTY), x -> x.useLemma(3, 0, 0));
        CHECK.outcome("a line of size 30 itself", '.', keeping(1, THIRTY), x -> x.useLemma(0, 0, 0));
        CHECK.room(1, () -> binding(threeLemmas(), "c"), x -> x.useLemma(0, 0, 0));
        CHECK.room(3, () -> binding(keep(threeLemmas(), "KNab"), "c"), x -> x.useLemma(3, 0, 0));
        CHECK.room(2, three("Kcd", "Nc"), x -> x.useLemma(2, 0, 1));
    }

    /** Binds the letter a. */
    private static DeductionDesk binding(DeductionDesk desk, String formula) {
        desk.bind(0, Desks.make(desk, formula));
        return desk;
    }

    // ---- questions

    private static void testLemmas() {
        EDGES.section("Promise 29: lemmas");
        EDGES.sentence("Returns the number of lemmas.", () -> {
            CHECK.same("none", new DeductionDesk().lemmas(), 0);
            CHECK.same("none with lines", Desks.proving("a").lemmas(), 0);
            for (int lemmas = 0; lemmas <= 8; lemmas++) {
                CHECK.same("some", keeping(lemmas).get().lemmas(), lemmas);
            }
            DeductionDesk full = keeping(8, "a").get();
            CHECK.same("a ninth one", Check.outcomeOf(full, x -> x.keepLemma()), 'S');
            CHECK.same("8 still", full.lemmas(), 8);
        });
    }

    private static void testConclusionOf() {
        EDGES.section("Promise 30: conclusionOf");
        EDGES.noEdge("Returns the conclusion of a lemma.", "- `lemma`: the number of the lemma");
        EDGES.sentence("Returns the number of its formula.", () -> {
            DeductionDesk desk = threeLemmas();
            String[] due = {"CFa", "CFb", "CFKab"};
            for (int lemma = 0; lemma < 3; lemma++) {
                CHECK.same("the conclusion", Desks.symbols(desk, desk.conclusionOf(lemma)), due[lemma]);
            }
            binding(desk, "Kbb");
            desk.useLemma(0, 0, 0);
            CHECK.same("an instance does not change it", Desks.symbols(desk, desk.conclusionOf(0)), "CFa");
            CHECK.same("the first formula of all", keeping(1).get().conclusionOf(0), 0);
            DeductionDesk last = Desks.fillWith(new DeductionDesk(), 4, 150);
            last.premise(149);
            last.keepLemma();
            CHECK.same("the last formula of all", last.conclusionOf(0), 149);
        });
        EDGES.sentence("Throws `IndexOutOfBoundsException` if there is no such lemma", () -> {
            CHECK.outcomes("none", () -> Desks.proving("a"), -1, "II", (x, n) -> x.conclusionOf(n));
            CHECK.outcomes("three", EdgesOfLemmasTest::threeLemmas, -1, "I...I", (x, n) -> x.conclusionOf(n));
            CHECK.outcomes("8", keeping(8), -1, "I........I", (x, n) -> x.conclusionOf(n));
        });
    }
}
