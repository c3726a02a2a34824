import java.util.function.BiConsumer;
import java.util.function.Supplier;

/** Promises 12 to 26: each sentence that names a boundary case, with a test of its own. */
public final class EdgesOfProofTest {
    private static final String NEW_LINE = "Returns the number of the new line.";
    private static final String LINE = "- `line`: the number of the line";
    private static final String BOX = "- `box`: the number of the box";
    private static final String NO_LINE = "Throws `IndexOutOfBoundsException` if there is no such line";
    private static final String NO_LINES = "Throws `IndexOutOfBoundsException` if there is no such line, for either";
    private static final String NO_LINE_OR_FORMULA =
            "Throws `IndexOutOfBoundsException` if there is no such line or no such formula";
    private static final String NO_FORMULA = "Throws `IndexOutOfBoundsException` if there is no such formula";
    private static final String NO_BOX = "Throws `IndexOutOfBoundsException` if there is no such box";
    private static final String NOT_CITED = "Throws `NoSuchElementException` if it cannot be cited";
    private static final String LINE_NOT_CITED = "Throws `NoSuchElementException` if the line cannot be cited";
    private static final String ONE_NOT_CITED = "Throws `NoSuchElementException` if one of them cannot be cited";
    private static final String NO_ROOM = "Throws `IllegalStateException` if there are 60 lines";
    private static final String FOURTEEN = "N".repeat(13) + "a";
    private static final String FIFTEEN = "N".repeat(14) + "a";
    private static final String THIRTY = "N".repeat(29) + "a";
    private static final Edges EDGES = new Edges("EdgesOfProofTest");
    private static final Check CHECK = EDGES.check();

    private EdgesOfProofTest() {
    }

    public static void main(String[] args) {
        testPremise();
        testAssume();
        testCloseBox();
        testRepeat();
        testMakeConjunction();
        testUseConjunction();
        testMakeDisjunction();
        testUseDisjunction();
        testMakeImplication();
        testUseImplication();
        testMakeNegation();
        testUseNegation();
        testFromFalsum();
        testDoubleNegation();
        testNewProof();
        EDGES.end();
    }

    // ---- what the tests share

    private static Supplier<DeductionDesk> proving(String... premises) {
        return () -> Desks.proving(premises);
    }

    /** Premises, whose formulas become known first, and then formulas of the letter e up to 150. */
    private static Supplier<DeductionDesk> full(String... premises) {
        return () -> Desks.fillWith(Desks.proving(premises), 4, 150);
    }

    private static Supplier<DeductionDesk> sixty(Supplier<DeductionDesk> prepare) {
        return () -> Desks.fillLines(prepare.get(), 0);
    }

    // ---- premises, assumptions, boxes

    private static void testPremise() {
        EDGES.section("Promise 12: premise");
        EDGES.sentence("Enters a premise, outside of all boxes.", () -> {
            CHECK.enters("a", () -> Desks.with("a"), x -> x.premise(0));
            CHECK.enters(THIRTY, () -> Desks.with(THIRTY), x -> x.premise(29));
            CHECK.enters("a", proving("a"), x -> x.premise(0));
            DeductionDesk desk = Desks.workshop();
            CHECK.same("the depth behind closed boxes", desk.depthOf(desk.premise(0)), 0);
        });
        EDGES.noEdge("- `formula`: the number of its formula");
        EDGES.sentence("Returns the number of the line.", () -> {
            CHECK.same("the first line", Desks.with("a").premise(0), 0);
            CHECK.newLine(x -> x.premise(0));
        });
        EDGES.sentence(NO_FORMULA, () -> {
            CHECK.outcomes("among none", DeductionDesk::new, -1, "II", (x, n) -> x.premise(n));
            CHECK.outcomes("among two", () -> Desks.with("a", "b"), -1, "I..I", (x, n) -> x.premise(n));
            CHECK.outcomes("among 150", full("a"), -1, "I" + ".".repeat(150) + "I", (x, n) -> x.premise(n));
            CHECK.outcomes("in a box of 60 lines", sixty(Desks::nested), -1, "IUUUUUUI", (x, n) -> x.premise(n));
        });
        EDGES.sentence("Throws `UnsupportedOperationException` if a box is open", () -> {
            for (int boxes = 1; boxes < 4; boxes++) {
                for (int closed = 0; closed <= boxes; closed++) {
                    int opened = boxes;
                    int ended = closed;
                    CHECK.outcome(closed + " of " + boxes + " boxes closed", closed == boxes ? '.' : 'U', () -> {
                        DeductionDesk x = Desks.with("a");
                        for (int i = 0; i < opened; i++) {
                            x.assume(0);
                        }
                        for (int i = 0; i < ended; i++) {
                            x.closeBox();
                        }
                        return x;
                    }, x -> x.premise(0));
                }
            }
            CHECK.outcome("a box of the proof before", '.', () -> {
                DeductionDesk x = Desks.nested();
                x.newProof();
                return x;
            }, x -> x.premise(0));
        });
        EDGES.sentence(NO_ROOM, () -> CHECK.sixty(x -> x.premise(0)));
    }

    private static void testAssume() {
        EDGES.section("Promise 13: assume");
        EDGES.sentence("Enters an assumption, which opens a box.", () -> {
            CHECK.enters("a", () -> Desks.with("a"), x -> x.assume(0));
            CHECK.enters(THIRTY, () -> Desks.with(THIRTY), x -> x.assume(29));
            DeductionDesk desk = Desks.with("a");
            for (int boxes = 1; boxes <= 60; boxes++) {
                int line = desk.assume(0);
                CHECK.same("boxes", desk.boxes(), boxes);
                CHECK.same("in all of them", desk.depthOf(line), boxes);
                CHECK.same("the new one is open", desk.canCiteBox(boxes - 1), false);
                CHECK.same("the line can be cited", desk.canCite(line), true);
            }
            DeductionDesk refused = Desks.fillLines(Desks.nested(), 0);
            CHECK.same("a refused call", Check.outcomeOf(refused, x -> x.assume(0)), 'S');
            CHECK.same("opens no box", refused.boxes(), 5);
        });
        EDGES.noEdge("- `formula`: the number of its formula");
        EDGES.sentence("Returns the number of the line.", () -> {
            CHECK.same("the first line", Desks.with("a").assume(0), 0);
            CHECK.newLine(x -> x.assume(0));
        });
        EDGES.sentence(NO_FORMULA, () -> {
            CHECK.outcomes("among none", DeductionDesk::new, -1, "II", (x, n) -> x.assume(n));
            CHECK.outcomes("among two", () -> Desks.with("a", "b"), -1, "I..I", (x, n) -> x.assume(n));
            CHECK.outcomes("among 150", full("a"), -1, "I" + ".".repeat(150) + "I", (x, n) -> x.assume(n));
            CHECK.outcomes("in a box of 60 lines", sixty(Desks::nested), -1, "ISSSSSSI", (x, n) -> x.assume(n));
        });
        EDGES.sentence(NO_ROOM, () -> CHECK.sixty(x -> x.assume(0)));
    }

    private static void testCloseBox() {
        EDGES.section("Promise 14: closeBox");
        EDGES.sentence("Closes the innermost box that is open.", () -> {
            DeductionDesk desk = Desks.nested();
            desk.closeBox();
            CHECK.same("the inner one is closed", desk.canCite(7), false);
            CHECK.same("the outer one is open", desk.canCite(6), true);
            desk.closeBox();
            CHECK.same("then the outer one is closed, too", desk.canCite(6), false);
            CHECK.same("lines stay", desk.lines(), 8);
            CHECK.same("a line in no box can still be cited", desk.canCite(0), true);
        });
        EDGES.sentence("Returns the number of the box.", () -> {
            CHECK.same("the first of one line", openBoxes(1).closeBox(), 0);
            DeductionDesk desk = openBoxes(60);
            for (int box = 59; box >= 0; box--) {
                CHECK.same("the innermost one", desk.closeBox(), box);
            }
            DeductionDesk nested = Desks.nested();
            CHECK.same("behind closed boxes", nested.closeBox(), 4);
            CHECK.same("the outer one", nested.closeBox(), 3);
            CHECK.same("behind 60 lines", sixty(Desks::nested).get().closeBox(), 4);
        });
        EDGES.sentence("Throws `IllegalStateException` if no box is open", () -> {
            CHECK.outcome("no lines", 'S', DeductionDesk::new, x -> x.closeBox());
            CHECK.outcome("no boxes", 'S', proving("a"), x -> x.closeBox());
            CHECK.outcome("closed boxes", 'S', Desks::workshop, x -> x.closeBox());
            CHECK.outcome("an open box", '.', () -> openBoxes(1), x -> x.closeBox());
            CHECK.outcome("open boxes of the proof before", 'S', () -> {
                DeductionDesk x = openBoxes(3);
                x.newProof();
                return x;
            }, x -> x.closeBox());
            CHECK.outcome("60 boxes, all closed", 'S', () -> {
                DeductionDesk x = openBoxes(60);
                for (int i = 0; i < 60; i++) {
                    x.closeBox();
                }
                return x;
            }, x -> x.closeBox());
        });
    }

    private static DeductionDesk openBoxes(int boxes) {
        DeductionDesk desk = Desks.with("a");
        for (int i = 0; i < boxes; i++) {
            desk.assume(0);
        }
        return desk;
    }

    // ---- rules

    private static void testRepeat() {
        EDGES.section("Promise 15: repeat");
        EDGES.sentence("Enters the formula of a line once more.", () -> {
            CHECK.enters("a", proving("a"), x -> x.repeat(0));
            CHECK.enters(THIRTY, full(THIRTY), x -> x.repeat(0));
            CHECK.enters("b", Desks.nested("a", "b"), x -> x.repeat(8));
        });
        EDGES.noEdge(LINE);
        EDGES.sentence(NEW_LINE, () -> CHECK.newLine(x -> x.repeat(0)));
        EDGES.sentence(NO_LINE, () -> noLine("I.I", "I..I", (x, n) -> x.repeat(n)));
        EDGES.sentence(NOT_CITED, () -> CHECK.notCited(Desks.nested("a", "b"), "I..NNNN...I", (x, n) -> x.repeat(n)));
        EDGES.sentence(NO_ROOM, () -> CHECK.sixty(x -> x.repeat(0)));
    }

    /** The outcomes with a proof of one line, a, and with one of two lines, Kab and NNa, beside that without lines. */
    private static void noLine(String one, String two, BiConsumer<DeductionDesk, Integer> call) {
        CHECK.outcomes("no lines", () -> Desks.with("a"), -1, "II", call);
        CHECK.outcomes("one line and those of the proof before", Desks::begunAnew, -1, one, call);
        CHECK.outcomes("two lines", proving("Kab", "NNa"), -1, two, call);
        CHECK.outcomes("60 lines", sixty(proving("Kab")), -1,
                "I" + two.substring(1, 2).replace('.', 'S').repeat(60) + "I", call);
    }

    private static void testMakeConjunction() {
        EDGES.section("Promise 16: makeConjunction");
        EDGES.noEdge("Enters the conjunction of the formulas of two lines.");
        EDGES.sentence("- `line`: the number of the line with the left formula", () -> {
            CHECK.enters("KaNb", proving("a", "Nb"), x -> x.makeConjunction(0, 1));
            CHECK.enters("Kaa", proving("a", "Nb"), x -> x.makeConjunction(0, 0));
        });
        EDGES.sentence("- `other`: the number of the line with the right formula", () -> {
            CHECK.enters("KNba", proving("a", "Nb"), x -> x.makeConjunction(1, 0));
            CHECK.enters("KNbNb", proving("a", "Nb"), x -> x.makeConjunction(1, 1));
        });
        EDGES.sentence(NEW_LINE, () -> CHECK.newLine(x -> x.makeConjunction(0, 1)));
        EDGES.sentence(NO_LINES, () -> {
            noLine("I.I", "I..I", (x, n) -> x.makeConjunction(n, 0));
            noLine("I.I", "I..I", (x, n) -> x.makeConjunction(0, n));
            noLine("I.I", "I..I", (x, n) -> x.makeConjunction(n, n));
            CHECK.outcomes("and the other one not cited", Desks.nested("a", "b"), -1, "INNNNNNNNNI",
                    (x, n) -> x.makeConjunction(n, 3));
            CHECK.outcomes("and the first one not cited", Desks.nested("a", "b"), -1, "INNNNNNNNNI",
                    (x, n) -> x.makeConjunction(3, n));
        });
        EDGES.sentence(ONE_NOT_CITED, () -> {
            CHECK.notCited(Desks.nested("a", "b"), "I..NNNN...I", (x, n) -> x.makeConjunction(n, 0));
            CHECK.notCited(Desks.nested("a", "b"), "I..NNNN...I", (x, n) -> x.makeConjunction(0, n));
            CHECK.notCited(Desks.nested("a", "b"), "I..NNNN...I", (x, n) -> x.makeConjunction(n, n));
        });
        EDGES.sentence("Throws `IllegalStateException` if there are 60 lines, or the conjunction cannot ..", () -> {
            CHECK.sixty(x -> x.makeConjunction(4, 4));
            CHECK.sixty(x -> x.makeConjunction(4, 2));
            Supplier<DeductionDesk> large = proving(FOURTEEN, FIFTEEN);
            CHECK.outcome("size 30", '.', large, x -> x.makeConjunction(0, 1));
            CHECK.outcome("size 31", 'S', large, x -> x.makeConjunction(1, 1));
            CHECK.room(1, proving("a", "b"), x -> x.makeConjunction(0, 1));
            CHECK.outcome("60 lines, and the conjunction is not made", 'S', sixty(proving("a")),
                    x -> x.makeConjunction(0, 0));
        });
    }

    private static void testUseConjunction() {
        EDGES.section("Promise 17: useConjunction");
        EDGES.sentence("Enters one of the two formulas of a conjunction.", () -> {
            CHECK.enters("a", full("Kaa"), x -> x.useConjunction(0, false));
            CHECK.enters("a", full("Kaa"), x -> x.useConjunction(0, true));
            CHECK.enters(FIFTEEN, full("K" + FOURTEEN + FIFTEEN), x -> x.useConjunction(0, true));
        });
        EDGES.noEdge("- `line`: the number of the line with the conjunction");
        EDGES.sentence("- `isRight`: whether it is the right formula; otherwise, it is the left one", () -> {
            CHECK.enters("Kab", proving("KKabc"), x -> x.useConjunction(0, false));
            CHECK.enters("c", proving("KKabc"), x -> x.useConjunction(0, true));
        });
        EDGES.sentence(NEW_LINE, () -> CHECK.newLine(x -> x.useConjunction(2, true)));
        EDGES.sentence(NO_LINE, () -> noLine("IUI", "I.UI", (x, n) -> x.useConjunction(n, true)));
        EDGES.sentence(NOT_CITED, () -> {
            CHECK.notCited(Desks.nested("a", "Kab"), "IU.NNNN...I", (x, n) -> x.useConjunction(n, false));
            CHECK.notCited(Desks.nested("Kab", "a"), "I.UNNNNUUUI", (x, n) -> x.useConjunction(n, true));
        });
        EDGES.sentence("Throws `UnsupportedOperationException` if its formula is not a conjunction", () -> {
            Supplier<DeductionDesk> kinds = proving("a", "F", "NKab", "Aab", "Cab", "Kab", "KFF");
            CHECK.outcomes("each kind", kinds, -1, "IUUUUU..I", (x, n) -> x.useConjunction(n, false));
            CHECK.outcomes("each kind", kinds, -1, "IUUUUU..I", (x, n) -> x.useConjunction(n, true));
            CHECK.outcomes("each kind among 60 lines", () -> Desks.fillLines(kinds.get(), 6), -1,
                    "IUUUUU" + "S".repeat(55) + "I", (x, n) -> x.useConjunction(n, true));
        });
        EDGES.sentence(NO_ROOM, () -> {
            CHECK.sixty(x -> x.useConjunction(2, false));
            CHECK.sixty(x -> x.useConjunction(2, true));
        });
    }

    private static void testMakeDisjunction() {
        EDGES.section("Promise 18: makeDisjunction");
        EDGES.noEdge("Enters a disjunction of the formula of a line and another formula.", LINE,
                "- `formula`: the number of the other formula");
        EDGES.sentence("- `isRight`: whether the formula of the line is the right formula of ..", () -> {
            Supplier<DeductionDesk> desk = () -> {
                DeductionDesk x = Desks.with("b");
                x.premise(Desks.make(x, "Na"));
                return x;
            };
            CHECK.enters("ANab", desk, x -> x.makeDisjunction(0, 0, false));
            CHECK.enters("AbNa", desk, x -> x.makeDisjunction(0, 0, true));
            CHECK.enters("ANaNa", desk, x -> x.makeDisjunction(0, 2, false));
            CHECK.enters("ANaNa", desk, x -> x.makeDisjunction(0, 2, true));
        });
        EDGES.sentence(NEW_LINE, () -> CHECK.newLine(x -> x.makeDisjunction(4, 2, false)));
        EDGES.sentence(NO_LINE_OR_FORMULA, () -> {
            noLine("I.I", "I..I", (x, n) -> x.makeDisjunction(n, 0, false));
            noLine("I.I", "I..I", (x, n) -> x.makeDisjunction(n, 0, true));
            CHECK.outcomes("a formula", proving("a", "b"), -1, "I..I", (x, n) -> x.makeDisjunction(0, n, true));
            CHECK.outcomes("a formula among 150", full("a"), -1, "I" + "S".repeat(150) + "I",
                    (x, n) -> x.makeDisjunction(0, n, false));
            CHECK.outcomes("a formula, the line not cited", Desks.nested("a", "b"), -1, "INNI",
                    (x, n) -> x.makeDisjunction(3, n, true));
            CHECK.outcomes("no formula and no line", Desks.nested("a", "b"), -1, "IIII",
                    (x, n) -> x.makeDisjunction(9, n, true));
        });
        EDGES.sentence(LINE_NOT_CITED, () -> {
            CHECK.notCited(Desks.nested("a", "b"), "I..NNNN...I", (x, n) -> x.makeDisjunction(n, 0, false));
            CHECK.notCited(Desks.nested("a", "b"), "I..NNNN...I", (x, n) -> x.makeDisjunction(n, 1, true));
        });
        EDGES.sentence("Throws `IllegalStateException` if there are 60 lines, or the disjunction cannot ..", () -> {
            CHECK.sixty(x -> x.makeDisjunction(4, 2, false));
            CHECK.sixty(x -> x.makeDisjunction(4, 4, true));
            // Formula 13 has size 14, and formula 14 has size 15.
            CHECK.outcome("size 30", '.', proving(FOURTEEN, FIFTEEN), x -> x.makeDisjunction(0, 14, false));
            CHECK.outcome("size 30", '.', proving(FOURTEEN, FIFTEEN), x -> x.makeDisjunction(1, 13, true));
            CHECK.outcome("size 31", 'S', proving(FOURTEEN, FIFTEEN), x -> x.makeDisjunction(1, 14, false));
            CHECK.outcome("size 31", 'S', proving(FOURTEEN, FIFTEEN), x -> x.makeDisjunction(1, 14, true));
            CHECK.room(1, proving("a", "b"), x -> x.makeDisjunction(0, 1, false));
            CHECK.room(1, proving("a", "b"), x -> x.makeDisjunction(0, 1, true));
        });
    }

    private static void testUseDisjunction() {
        EDGES.section("Promise 19: useDisjunction");
        EDGES.sentence("Enters the result of two boxes, of which one begins with the left formula ..", () -> {
            CHECK.enters("c", Desks::workshop, x -> x.useDisjunction(1, 0, 1));
            CHECK.enters("a", () -> Desks.closed(Desks.proving("Aaa"), "a"), x -> x.useDisjunction(0, 0, 0));
            CHECK.enters("F", () -> Desks.box(Desks.box(Desks.proving("F", "AaF"), "a", "F"), "F", "F"),
                    x -> x.useDisjunction(1, 0, 1));
        });
        EDGES.noEdge("- `line`: the number of the line with the disjunction",
                "- `box`: the number of the box whose first line has the left formula");
        EDGES.sentence("- `other`: the number of the box whose first line has the right formula, ..", () -> {
            Supplier<DeductionDesk> same = () -> Desks.box(Desks.box(Desks.proving("F", "Abb"), "b", "c"), "b", "c");
            for (int box = 0; box < 2; box++) {
                for (int other = 0; other < 2; other++) {
                    int left = box;
                    int right = other;
                    CHECK.enters("c", same, x -> x.useDisjunction(1, left, right));
                }
            }
            CHECK.outcome("the same box for two formulas", 'U', Desks::workshop, x -> x.useDisjunction(1, 0, 0));
            CHECK.outcome("the same box for two formulas", 'U', Desks::workshop, x -> x.useDisjunction(1, 1, 1));
        });
        EDGES.sentence(NEW_LINE, () -> CHECK.newLine(x -> x.useDisjunction(1, 0, 1)));
        EDGES.sentence("Throws `IndexOutOfBoundsException` if there is no such line or no such box, for either", () -> {
            CHECK.outcomes("no lines", () -> Desks.with("a"), -1, "II", (x, n) -> x.useDisjunction(n, 0, 0));
            CHECK.outcomes("no boxes", proving("Aaa"), -1, "II", (x, n) -> x.useDisjunction(0, n, n));
            CHECK.outcomes("a line", Desks::workshop, -1, "IU.UUUUUNNNNNNI", (x, n) -> x.useDisjunction(n, 0, 1));
            CHECK.outcomes("a box", Desks::workshop, -1, "I.UUI", (x, n) -> x.useDisjunction(1, n, 1));
            CHECK.outcomes("the other box", Desks::workshop, -1, "IU.UI", (x, n) -> x.useDisjunction(1, 0, n));
            CHECK.outcomes("a line that is not cited, and a box", Desks::workshop, -1, "INNNI",
                    (x, n) -> x.useDisjunction(7, n, 1));
            CHECK.outcomes("a line that is not cited, and the other box", Desks::workshop, -1, "INNNI",
                    (x, n) -> x.useDisjunction(7, 0, n));
            CHECK.outcomes("boxes of the proof before", Desks::begunAnew, -1, "II",
                    (x, n) -> x.useDisjunction(0, n, n));
        });
        EDGES.sentence("Throws `NoSuchElementException` if the line or one of the boxes cannot be cited", () -> {
            Supplier<DeductionDesk> boxes = Desks.nested("Aaa", "a");
            CHECK.outcomes("a box", boxes, -1, "I.NNNNI", (x, n) -> x.useDisjunction(0, n, 0));
            CHECK.outcomes("the other box", boxes, -1, "I.NNNNI", (x, n) -> x.useDisjunction(0, 0, n));
            CHECK.outcomes("both boxes", boxes, -1, "I.NNNNI", (x, n) -> x.useDisjunction(0, n, n));
            CHECK.outcomes("a box, among 60 lines", sixty(boxes), -1, "ISNNNNI", (x, n) -> x.useDisjunction(0, n, 0));
            CHECK.outcomes("a box, and no disjunction", boxes, -1, "IUNNNNI", (x, n) -> x.useDisjunction(1, n, 0));
            CHECK.notCited(Desks.nested("a", "Aaa"), "IUUNNNNUUUI", (x, n) -> x.useDisjunction(n, 0, 0));
            CHECK.outcome("a disjunction of a closed box", 'N', () -> Desks.closed(Desks.closed(new DeductionDesk(),
                    "Aaa"), "a"), x -> x.useDisjunction(0, 1, 1));
            CHECK.outcome("a disjunction of an open box", '.', () -> {
                DeductionDesk x = Desks.with("Aaa");
                x.assume(1);
                return Desks.closed(x, "a");
            }, x -> x.useDisjunction(0, 1, 1));
        });
        EDGES.sentence("Throws `UnsupportedOperationException` if the formula of the line is not ..", () -> {
            Supplier<DeductionDesk> kinds = () -> Desks.closed(Desks.proving("a", "F", "Na", "Kaa", "Caa", "NAaa",
                    "Aaa", "Aab", "Aba"), "a");
            CHECK.outcomes("each kind", kinds, -1, "IUUUUUU.UUNI", (x, n) -> x.useDisjunction(n, 0, 0));
            CHECK.outcomes("each kind among 60 lines", sixty(kinds), -1, "IUUUUUUSUUN" + "U".repeat(50) + "I",
                    (x, n) -> x.useDisjunction(n, 0, 0));
            CHECK.outcome("the boxes exchanged", 'U', Desks::workshop, x -> x.useDisjunction(1, 1, 0));
            CHECK.outcome("another first line on the left", 'U', Desks::workshop, x -> x.useDisjunction(1, 1, 1));
            CHECK.outcome("another first line on the right", 'U', Desks::workshop, x -> x.useDisjunction(1, 0, 0));
            CHECK.outcome("other results", 'U', Desks::workshop, x -> x.useDisjunction(1, 2, 1));
        });
        EDGES.sentence(NO_ROOM, () -> CHECK.sixty(x -> x.useDisjunction(1, 0, 1)));
    }

    private static void testMakeImplication() {
        EDGES.section("Promise 20: makeImplication");
        EDGES.sentence("Enters the implication of the formula of the first line of a box and its result.", () -> {
            CHECK.enters("Cac", Desks::workshop, x -> x.makeImplication(0));
            CHECK.enters("Caa", () -> Desks.closed(new DeductionDesk(), "a"), x -> x.makeImplication(0));
            CHECK.enters("CFF", () -> Desks.closed(new DeductionDesk(), "F"), x -> x.makeImplication(0));
            CHECK.enters("Cab", nestedResult(), x -> x.makeImplication(0));
        });
        EDGES.noEdge(BOX);
        EDGES.sentence(NEW_LINE, () -> CHECK.newLine(x -> x.makeImplication(0)));
        EDGES.sentence(NO_BOX, () -> noBox("I...I", (x, n) -> x.makeImplication(n)));
        EDGES.sentence(NOT_CITED, () -> boxNotCited("a", '.', (x, n) -> x.makeImplication(n)));
        EDGES.sentence("Throws `IllegalStateException` if there are 60 lines, or the implication cannot ..", () -> {
            CHECK.sixty(x -> x.makeImplication(0));
            Supplier<DeductionDesk> large = () -> Desks.box(Desks.box(Desks.box(Desks.proving("F"), FOURTEEN, FIFTEEN),
                    FIFTEEN, FOURTEEN), FIFTEEN, FIFTEEN);
            CHECK.outcomes("sizes 30, 30 and 31", large, -1, "I..SI", (x, n) -> x.makeImplication(n));
            CHECK.room(1, () -> Desks.box(Desks.proving("F"), "a", "b"), x -> x.makeImplication(0));
            CHECK.outcome("60 lines, and the implication is known", 'S', () -> Desks.fillLines(Desks.box(
                    Desks.proving("F", "Cab"), "a", "b"), 0), x -> x.makeImplication(0));
        });
    }

    /** Box 0 leads from a to b, though its last line is that of a box in it. */
    private static Supplier<DeductionDesk> nestedResult() {
        return () -> {
            DeductionDesk x = Desks.proving("b");
            x.assume(Desks.make(x, "a"));
            x.repeat(0);
            Desks.closed(x, "c");
            x.closeBox();
            return x;
        };
    }

    /** The outcomes in the workshop with its three boxes, beside those of desks without a box. */
    private static void noBox(String due, BiConsumer<DeductionDesk, Integer> call) {
        CHECK.outcomes("no lines", DeductionDesk::new, -1, "II", call);
        CHECK.outcomes("no boxes", proving("a", "b"), -1, "II", call);
        CHECK.outcomes("boxes of the proof before", Desks::begunAnew, -1, "II", call);
        CHECK.outcomes("three boxes", Desks::workshop, -1, due, call);
        CHECK.outcomes("three boxes, 60 lines", sixty(Desks::workshop), -1, due.replace('.', 'S'), call);
        CHECK.outcomes("59 boxes", () -> {
            DeductionDesk x = Desks.proving("F");
            for (int box = 0; box < 58; box++) {
                Desks.closed(x, "F");
            }
            return x;
        }, -1, "I" + ".".repeat(58) + "I", call);
    }

    /** Box 0 of the nested desk, in which all lines have this formula, can be cited, and box 1 to 4 cannot. */
    private static void boxNotCited(String formula, char due, BiConsumer<DeductionDesk, Integer> call) {
        Supplier<DeductionDesk> boxes = Desks.nested("b", formula);
        CHECK.outcomes("two boxes open", boxes, -1, "I" + due + "NNNNI", call);
        CHECK.outcomes("one box open", () -> {
            DeductionDesk x = boxes.get();
            x.closeBox();
            return x;
        }, -1, "I" + due + "NNN" + due + "I", call);
        CHECK.outcomes("no box open", () -> {
            DeductionDesk x = boxes.get();
            x.closeBox();
            x.closeBox();
            return x;
        }, -1, "I" + due + "NN" + due + "NI", call);
        CHECK.outcomes("60 lines", sixty(boxes), -1, "I" + (due == '.' ? 'S' : due) + "NNNNI", call);
    }

    private static void testUseImplication() {
        EDGES.section("Promise 21: useImplication");
        EDGES.sentence("Enters the right formula of an implication.", () -> {
            CHECK.enters("b", proving("Cab", "a"), x -> x.useImplication(0, 1));
            CHECK.enters("a", full("Caa", "a"), x -> x.useImplication(0, 1));
            CHECK.enters(FIFTEEN, full("C" + FOURTEEN + FIFTEEN, FOURTEEN), x -> x.useImplication(0, 1));
        });
        EDGES.noEdge("- `line`: the number of the line with the implication",
                "- `other`: the number of a line with its left formula");
        EDGES.sentence(NEW_LINE, () -> CHECK.newLine(x -> x.useImplication(3, 4)));
        EDGES.sentence(NO_LINES, () -> {
            noLine("IUI", "IUUI", (x, n) -> x.useImplication(n, 0));
            noLine("IUI", "IUUI", (x, n) -> x.useImplication(0, n));
            CHECK.outcomes("the first one", proving("a", "Cab"), -1, "IU.I", (x, n) -> x.useImplication(n, 0));
            CHECK.outcomes("the other one", proving("Cab", "a"), -1, "IU.I", (x, n) -> x.useImplication(0, n));
            CHECK.outcomes("and the other one not cited", Desks.nested("a", "Cab"), -1, "INNNNNNNNNI",
                    (x, n) -> x.useImplication(n, 3));
            CHECK.outcomes("and the first one not cited", Desks.nested("a", "Cab"), -1, "INNNNNNNNNI",
                    (x, n) -> x.useImplication(3, n));
        });
        EDGES.sentence(ONE_NOT_CITED, () -> {
            CHECK.notCited(Desks.nested("a", "Cab"), "IU.NNNN...I", (x, n) -> x.useImplication(n, 0));
            CHECK.notCited(Desks.nested("Cab", "a"), "IU.NNNN...I", (x, n) -> x.useImplication(0, n));
            CHECK.notCited(Desks.nested("a", "b"), "IUUNNNNUUUI", (x, n) -> x.useImplication(n, n));
        });
        EDGES.sentence("Throws `UnsupportedOperationException` if the formula of the first line is not an ..", () -> {
            Supplier<DeductionDesk> kinds = proving("a", "F", "Na", "NCaa", "Kab", "Aab", "Cab", "Cba", "CFa", "b");
            CHECK.outcomes("each kind with a", kinds, -1, "IUUUUUU.UUUI", (x, n) -> x.useImplication(n, 0));
            CHECK.outcomes("each kind with F", kinds, -1, "IUUUUUUUU.UI", (x, n) -> x.useImplication(n, 1));
            CHECK.outcomes("Cab with each kind", kinds, -1, "I.UUUUUUUUUI", (x, n) -> x.useImplication(6, n));
            CHECK.outcomes("each kind with itself", kinds, -1, "IUUUUUUUUUUI", (x, n) -> x.useImplication(n, n));
            CHECK.outcomes("Cab with each kind, among 60 lines", () -> Desks.fillLines(kinds.get(), 0), -1,
                    "ISUUUUUUUUU" + "S".repeat(50) + "I", (x, n) -> x.useImplication(6, n));
        });
        EDGES.sentence(NO_ROOM, () -> CHECK.sixty(x -> x.useImplication(3, 4)));
    }

    private static void testMakeNegation() {
        EDGES.section("Promise 22: makeNegation");
        EDGES.sentence("Enters the negation of the formula of the first line of a box whose result is falsum.", () -> {
            CHECK.enters("Na", Desks::workshop, x -> x.makeNegation(2));
            CHECK.enters("NF", () -> Desks.closed(new DeductionDesk(), "F"), x -> x.makeNegation(0));
            CHECK.enters("NNF", () -> Desks.box(Desks.proving("F"), "NF", "F"), x -> x.makeNegation(0));
        });
        EDGES.noEdge(BOX);
        EDGES.sentence(NEW_LINE, () -> CHECK.newLine(x -> x.makeNegation(2)));
        EDGES.sentence(NO_BOX, () -> noBox("IUU.I", (x, n) -> x.makeNegation(n)));
        EDGES.sentence(NOT_CITED, () -> {
            boxNotCited("F", '.', (x, n) -> x.makeNegation(n));
            boxNotCited("a", 'U', (x, n) -> x.makeNegation(n));
        });
        EDGES.sentence("Throws `UnsupportedOperationException` if its result is not falsum", () -> {
            Supplier<DeductionDesk> results = () -> {
                DeductionDesk x = Desks.proving("F");
                for (String each : new String[] {"a", "NF", "KFF", "AFF", "CFF", "NNF", "F"}) {
                    Desks.box(x, "a", each);
                }
                return Desks.closed(x, "b");
            };
            CHECK.outcomes("each result", results, -1, "IUUUUUU.UI", (x, n) -> x.makeNegation(n));
            CHECK.outcomes("each result, 60 lines", sixty(results), -1, "IUUUUUUSUI", (x, n) -> x.makeNegation(n));
            CHECK.outcome("falsum in a box in it alone", 'U', () -> {
                DeductionDesk x = Desks.with("a");
                x.assume(0);
                Desks.closed(x, "F");
                x.closeBox();
                return x;
            }, x -> x.makeNegation(0));
        });
        EDGES.sentence("Throws `IllegalStateException` if there are 60 lines, or the negation cannot be made", () -> {
            CHECK.sixty(x -> x.makeNegation(2));
            Supplier<DeductionDesk> large = () -> Desks.box(Desks.box(Desks.proving("F"), "N".repeat(28) + "b", "F"),
                    THIRTY, "F");
            CHECK.outcomes("sizes 30 and 31", large, -1, "I.SI", (x, n) -> x.makeNegation(n));
            CHECK.room(1, () -> Desks.box(Desks.proving("F"), "a", "F"), x -> x.makeNegation(0));
        });
    }

    private static void testUseNegation() {
        EDGES.section("Promise 23: useNegation");
        EDGES.sentence("Enters falsum, from a negation and the formula that is negated.", () -> {
            CHECK.enters("F", proving("Na", "a"), x -> x.useNegation(0, 1));
            CHECK.enters("F", full("NF", "F"), x -> x.useNegation(0, 1));
            CHECK.enters("F", proving("NNa", "Na"), x -> x.useNegation(0, 1));
            CHECK.enters("F", proving(THIRTY, THIRTY.substring(1)), x -> x.useNegation(0, 1));
        });
        EDGES.noEdge("- `line`: the number of the line with the negation",
                "- `other`: the number of a line with the formula that is negated");
        EDGES.sentence(NEW_LINE, () -> CHECK.newLine(x -> x.useNegation(5, 4)));
        EDGES.sentence(NO_LINES, () -> {
            noLine("IUI", "IUUI", (x, n) -> x.useNegation(n, 0));
            noLine("IUI", "IUUI", (x, n) -> x.useNegation(0, n));
            CHECK.outcomes("the first one", proving("a", "Na"), -1, "IU.I", (x, n) -> x.useNegation(n, 0));
            CHECK.outcomes("the other one", proving("Na", "a"), -1, "IU.I", (x, n) -> x.useNegation(0, n));
            CHECK.outcomes("and the other one not cited", Desks.nested("a", "Na"), -1, "INNNNNNNNNI",
                    (x, n) -> x.useNegation(n, 3));
            CHECK.outcomes("and the first one not cited", Desks.nested("a", "Na"), -1, "INNNNNNNNNI",
                    (x, n) -> x.useNegation(3, n));
        });
        EDGES.sentence(ONE_NOT_CITED, () -> {
            CHECK.notCited(Desks.nested("a", "Na"), "IU.NNNN...I", (x, n) -> x.useNegation(n, 0));
            CHECK.notCited(Desks.nested("Na", "a"), "IU.NNNN...I", (x, n) -> x.useNegation(0, n));
            CHECK.notCited(Desks.nested("a", "b"), "IUUNNNNUUUI", (x, n) -> x.useNegation(n, n));
        });
        EDGES.sentence("Throws `UnsupportedOperationException` if the formula of the first line is not a negation, ..",
                () -> {
                    Supplier<DeductionDesk> kinds = proving("a", "F", "Na", "NNa", "NF", "Kaa", "Aaa", "Caa", "b");
                    CHECK.outcomes("each kind with a", kinds, -1, "IUU.UUUUUUI", (x, n) -> x.useNegation(n, 0));
                    CHECK.outcomes("each kind with Na", kinds, -1, "IUUU.UUUUUI", (x, n) -> x.useNegation(n, 2));
                    CHECK.outcomes("each kind with F", kinds, -1, "IUUUU.UUUUI", (x, n) -> x.useNegation(n, 1));
                    CHECK.outcomes("Na with each kind", kinds, -1, "I.UUUUUUUUI", (x, n) -> x.useNegation(2, n));
                    CHECK.outcomes("each kind with itself", kinds, -1, "IUUUUUUUUUI", (x, n) -> x.useNegation(n, n));
                    CHECK.outcomes("Na with each kind, among 60 lines", () -> Desks.fillLines(kinds.get(), 0), -1,
                            "ISUUUUUUUU" + "S".repeat(51) + "I", (x, n) -> x.useNegation(2, n));
                });
        EDGES.sentence("Throws `IllegalStateException` if there are 60 lines, or falsum cannot be made", () -> {
            CHECK.sixty(x -> x.useNegation(5, 4));
            CHECK.room(1, proving("Na", "a"), x -> x.useNegation(0, 1));
        });
    }

    private static void testFromFalsum() {
        EDGES.section("Promise 24: fromFalsum");
        EDGES.sentence("Enters any formula, from falsum.", () -> {
            CHECK.enters("F", full("F"), x -> x.fromFalsum(0, 0));
            CHECK.enters("NF", full("F", "NF"), x -> x.fromFalsum(0, 1));
            CHECK.enters(THIRTY, full("F", THIRTY), x -> x.fromFalsum(0, 30));
            DeductionDesk last = full("F").get();
            CHECK.enters(Desks.symbols(last, 149), full("F"), x -> x.fromFalsum(0, 149));
        });
        EDGES.noEdge("- `line`: the number of a line with falsum", "- `formula`: the number of the formula");
        EDGES.sentence(NEW_LINE, () -> CHECK.newLine(x -> x.fromFalsum(0, 8)));
        EDGES.sentence(NO_LINE_OR_FORMULA, () -> {
            noLine("IUI", "IUUI", (x, n) -> x.fromFalsum(n, 0));
            CHECK.outcomes("a line", proving("F", "F"), -1, "I..I", (x, n) -> x.fromFalsum(n, 0));
            CHECK.outcomes("a formula", proving("F", "a"), -1, "I..I", (x, n) -> x.fromFalsum(0, n));
            CHECK.outcomes("a formula among 150", full("F"), -1, "I" + ".".repeat(150) + "I",
                    (x, n) -> x.fromFalsum(0, n));
            CHECK.outcomes("a formula, the line not cited", Desks.nested("F", "a"), -1, "INNI",
                    (x, n) -> x.fromFalsum(3, n));
            CHECK.outcomes("a formula, the line not falsum", Desks.nested("F", "a"), -1, "IUUI",
                    (x, n) -> x.fromFalsum(1, n));
        });
        EDGES.sentence(LINE_NOT_CITED, () -> {
            CHECK.notCited(Desks.nested("a", "F"), "IU.NNNN...I", (x, n) -> x.fromFalsum(n, 0));
            CHECK.notCited(Desks.nested("F", "a"), "I.UNNNNUUUI", (x, n) -> x.fromFalsum(n, 0));
        });
        EDGES.sentence("Throws `UnsupportedOperationException` if its formula is not falsum", () -> {
            Supplier<DeductionDesk> kinds = proving("a", "NF", "KFF", "AFF", "CFF", "NNF", "F");
            CHECK.outcomes("each kind", kinds, -1, "IUUUUUU.I", (x, n) -> x.fromFalsum(n, 0));
            CHECK.outcomes("each kind, 60 lines", sixty(kinds), -1, "IUUUUUUS" + "U".repeat(53) + "I",
                    (x, n) -> x.fromFalsum(n, 0));
        });
        EDGES.sentence(NO_ROOM, () -> CHECK.sixty(x -> x.fromFalsum(0, 8)));
    }

    private static void testDoubleNegation() {
        EDGES.section("Promise 25: doubleNegation");
        EDGES.sentence("Enters the formula that is negated twice.", () -> {
            CHECK.enters("a", full("NNa"), x -> x.doubleNegation(0));
            CHECK.enters("F", full("NNF"), x -> x.doubleNegation(0));
            CHECK.enters("Na", full("NNNa"), x -> x.doubleNegation(0));
            CHECK.enters(THIRTY.substring(2), full(THIRTY), x -> x.doubleNegation(0));
        });
        EDGES.noEdge("- `line`: the number of the line with the double negation");
        EDGES.sentence(NEW_LINE, () -> CHECK.newLine(x -> x.doubleNegation(6)));
        EDGES.sentence(NO_LINE, () -> noLine("IUI", "IU.I", (x, n) -> x.doubleNegation(n)));
        EDGES.sentence(NOT_CITED, () -> {
            CHECK.notCited(Desks.nested("a", "NNb"), "IU.NNNN...I", (x, n) -> x.doubleNegation(n));
            CHECK.notCited(Desks.nested("NNb", "a"), "I.UNNNNUUUI", (x, n) -> x.doubleNegation(n));
        });
        EDGES.sentence("Throws `UnsupportedOperationException` if its formula is not the negation ..", () -> {
            Supplier<DeductionDesk> kinds = proving("a", "F", "Na", "NKab", "NANab", "NCaa", "NF", "KNNaNNa", "NNa");
            CHECK.outcomes("each kind", kinds, -1, "IUUUUUUUU.I", (x, n) -> x.doubleNegation(n));
            CHECK.outcomes("each kind, 60 lines", sixty(kinds), -1, "IUUUUUUUUS" + "U".repeat(51) + "I",
                    (x, n) -> x.doubleNegation(n));
        });
        EDGES.sentence(NO_ROOM, () -> CHECK.sixty(x -> x.doubleNegation(6)));
    }

    private static void testNewProof() {
        EDGES.section("Promise 26: newProof");
        EDGES.sentence("Begins a new proof without lines and boxes.", () -> {
            for (DeductionDesk desk : new DeductionDesk[] {new DeductionDesk(), Desks.nested(), Desks.workshop(),
                sixty(Desks::nested).get()}) {
                desk.newProof();
                CHECK.same("lines", desk.lines(), 0);
                CHECK.same("boxes", desk.boxes(), 0);
                CHECK.same("no box is open", Check.outcomeOf(desk, x -> x.closeBox()), 'S');
                CHECK.same("no line is needed", Check.outcomeOf(desk, x -> x.needed()), 'N');
                CHECK.same("the next line", desk.assume(desk.letter(3)), 0);
                CHECK.same("its depth", desk.depthOf(0), 1);
                CHECK.same("the next box", desk.closeBox(), 0);
                CHECK.same("the result", Desks.symbols(desk, desk.resultOf(0)), "d");
                for (int line = 1; line < 60; line++) {
                    CHECK.same("60 lines once more", desk.premise(0), line);
                }
            }
        });
        EDGES.sentence("Returns the number of lines of the proof that is given up.", () -> {
            DeductionDesk desk = Desks.with("a");
            CHECK.same("an empty proof", desk.newProof(), 0);
            CHECK.same("an empty proof again", desk.newProof(), 0);
            desk.premise(0);
            CHECK.same("one line", desk.newProof(), 1);
            CHECK.same("lines in open and closed boxes", Desks.nested().newProof(), 8);
            CHECK.same("60 lines", sixty(Desks::nested).get().newProof(), 60);
        });
    }
}
