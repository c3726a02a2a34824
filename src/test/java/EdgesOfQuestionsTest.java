import java.util.function.BiConsumer;
import java.util.function.BiFunction;
import java.util.function.Consumer;
import java.util.function.Supplier;

/** Promises 31 to 39: each sentence that names a boundary case, with a test of its own. */
public final class EdgesOfQuestionsTest {
    private static final String LINE = "- `line`: the number of the line";
    private static final String BOX = "- `box`: the number of the box";
    private static final String NO_LINE = "Throws `IndexOutOfBoundsException` if there is no such line";
    private static final String NO_BOX = "Throws `IndexOutOfBoundsException` if there is no such box";
    private static final Edges EDGES = new Edges("EdgesOfQuestionsTest");
    private static final Check CHECK = EDGES.check();

    private EdgesOfQuestionsTest() {
    }

    public static void main(String[] args) {
        testLines();
        testFormulaOf();
        testRuleOf();
        testDepthOf();
        testCanCite();
        testBoxes();
        testCanCiteBox();
        testResultOf();
        testNeeded();
        EDGES.end();
    }

    // ---- what the tests share

    /** Assumptions alone, each in the box of the one before; some of the boxes are closed then. */
    private static DeductionDesk deep(int boxes, int closed) {
        DeductionDesk desk = Desks.with("a", "b");
        for (int i = 0; i < boxes; i++) {
            desk.assume(i % 2);
        }
        for (int i = 0; i < closed; i++) {
            desk.closeBox();
        }
        return desk;
    }

    /** 60 assumptions, each in a box of its own that is closed, or that is open if it is the last one. */
    private static DeductionDesk flat(boolean isLastOpen) {
        DeductionDesk desk = Desks.with("a", "b");
        for (int i = 0; i < 60; i++) {
            desk.assume(i % 2);
            if (i < 59 || !isLastOpen) {
                desk.closeBox();
            }
        }
        return desk;
    }

    private static void noLine(BiConsumer<DeductionDesk, Integer> call) {
        CHECK.outcomes("no lines", DeductionDesk::new, -1, "II", call);
        CHECK.outcomes("lines of the proof before", Desks::begunAnew, -1, "I.I", call);
        CHECK.outcomes("lines in boxes", Desks::nested, -1, "I........I", call);
        CHECK.outcomes("60 lines", () -> flat(true), -1, "I" + ".".repeat(60) + "I", call);
    }

    private static void noBox(BiConsumer<DeductionDesk, Integer> call) {
        CHECK.outcomes("no lines", DeductionDesk::new, -1, "II", call);
        CHECK.outcomes("no boxes", () -> Desks.proving("a"), -1, "II", call);
        CHECK.outcomes("boxes of the proof before", Desks::begunAnew, -1, "II", call);
        CHECK.outcomes("five boxes", Desks::nested, -1, "I.....I", call);
        CHECK.outcomes("60 boxes", () -> flat(true), -1, "I" + ".".repeat(60) + "I", call);
    }

    /** The answers for each number from 0 on, as they stand in a text without spaces between them. */
    private static void answers(String what, DeductionDesk desk, String due,
            BiFunction<DeductionDesk, Integer, Object> call) {
        StringBuilder got = new StringBuilder();
        for (int number = 0; got.length() < due.length(); number++) {
            Object answer = call.apply(desk, number);
            got.append(answer.equals(true) ? "y" : answer.equals(false) ? "n" : answer);
        }
        CHECK.same(what, got.toString(), due);
    }

    // ---- lines

    private static void testLines() {
        EDGES.section("Promise 31: lines");
        EDGES.sentence("Returns the number of lines.", () -> {
            CHECK.same("none", new DeductionDesk().lines(), 0);
            CHECK.same("none with formulas", Desks.with("a").lines(), 0);
            DeductionDesk desk = Desks.with("a");
            for (int lines = 1; lines <= 60; lines++) {
                desk.premise(0);
                CHECK.same("one more", desk.lines(), lines);
            }
            CHECK.same("the 61st", Check.outcomeOf(desk, x -> x.premise(0)), 'S');
            CHECK.same("60 still", desk.lines(), 60);
            CHECK.same("lines of closed boxes", flat(false).lines(), 60);
            DeductionDesk nested = Desks.nested();
            nested.closeBox();
            CHECK.same("a box that is closed enters none", nested.lines(), 8);
            nested.newProof();
            CHECK.same("a new proof", nested.lines(), 0);
        });
    }

    private static void testFormulaOf() {
        EDGES.section("Promise 32: formulaOf");
        EDGES.noEdge("Returns the formula of a line.", LINE);
        EDGES.sentence("Returns the number of the formula.", () -> {
            answers("lines of open and closed boxes", Desks.nested(), "01203405", (x, n) -> x.formulaOf(n));
            CHECK.same("the last of 60", flat(false).formulaOf(59), 1);
            DeductionDesk full = Desks.fillWith(new DeductionDesk(), 4, 150);
            full.premise(149);
            CHECK.same("the last of 150 formulas", full.formulaOf(0), 149);
            DeductionDesk again = Desks.nested();
            again.newProof();
            again.premise(4);
            CHECK.same("in a new proof", again.formulaOf(0), 4);
        });
        EDGES.sentence(NO_LINE, () -> noLine((x, n) -> x.formulaOf(n)));
    }

    private static void testRuleOf() {
        EDGES.section("Promise 33: ruleOf");
        EDGES.noEdge("Returns the rule of a line.", LINE);
        EDGES.sentence("Returns the letter of the rule.", () -> {
            answers("lines of open and closed boxes", Desks.nested(), "PHHRHHRH", (x, n) -> x.ruleOf(n));
            DeductionDesk desk = Desks.workshop();
            Desks.ENTERING.forEach(each -> each.accept(desk));
            answers("each rule", desk, "PPPPPPPHxHxHx" + "PHRklrab", (x, n) -> x.ruleOf(n));
        });
        EDGES.sentence(NO_LINE, () -> noLine((x, n) -> x.ruleOf(n)));
    }

    private static void testDepthOf() {
        EDGES.section("Promise 34: depthOf");
        EDGES.noEdge("Returns the depth of a line.", LINE);
        EDGES.sentence("Returns the number of boxes in which it lies, open or closed.", () -> {
            answers("lines of open and closed boxes", Desks.nested(), "01212112", (x, n) -> x.depthOf(n));
            for (int closed = 0; closed <= 60; closed += 20) {
                DeductionDesk desk = deep(60, closed);
                for (int line = 0; line < 60; line++) {
                    CHECK.same(closed + " of 60 boxes closed", desk.depthOf(line), line + 1);
                }
            }
            answers("boxes side by side", flat(false), "1".repeat(60), (x, n) -> x.depthOf(n));
            answers("premises", Desks.fillLines(Desks.proving("a"), 0), "0".repeat(60), (x, n) -> x.depthOf(n));
        });
        EDGES.sentence(NO_LINE, () -> noLine((x, n) -> x.depthOf(n)));
    }

    private static void testCanCite() {
        EDGES.section("Promise 35: canCite");
        EDGES.noEdge("Returns whether a line can be cited.", LINE);
        EDGES.sentence("Returns whether it can be cited.", () -> {
            answers("lines of open and closed boxes", Desks.nested(), "ynnnnyyy", (x, n) -> x.canCite(n));
            for (int closed = 0; closed <= 60; closed += 15) {
                answers(closed + " of 60 boxes closed", deep(60, closed), "y".repeat(60 - closed) + "n".repeat(closed),
                        (x, n) -> x.canCite(n));
            }
            answers("boxes side by side", flat(false), "n".repeat(60), (x, n) -> x.canCite(n));
            answers("the last box open", flat(true), "n".repeat(59) + "y", (x, n) -> x.canCite(n));
            answers("no box", Desks.fillLines(Desks.proving("a"), 0), "y".repeat(60), (x, n) -> x.canCite(n));
        });
        EDGES.sentence(NO_LINE, () -> noLine((x, n) -> x.canCite(n)));
    }

    // ---- boxes

    private static void testBoxes() {
        EDGES.section("Promise 36: boxes");
        EDGES.sentence("Returns the number of boxes, open and closed.", () -> {
            CHECK.same("open and closed", Desks.nested().boxes(), 5);
            CHECK.same("open", deep(3, 0).boxes(), 3);
            CHECK.same("closed", deep(3, 3).boxes(), 3);
        });
        EDGES.sentence("Returns the number of boxes.", () -> {
            CHECK.same("none", new DeductionDesk().boxes(), 0);
            CHECK.same("none with lines", Desks.proving("a", "b").boxes(), 0);
            CHECK.same("60 in one another", deep(60, 0).boxes(), 60);
            CHECK.same("60 side by side", flat(false).boxes(), 60);
            DeductionDesk full = deep(60, 0);
            CHECK.same("the 61st", Check.outcomeOf(full, x -> x.assume(0)), 'S');
            CHECK.same("60 still", full.boxes(), 60);
            full.newProof();
            CHECK.same("a new proof", full.boxes(), 0);
        });
    }

    private static void testCanCiteBox() {
        EDGES.section("Promise 37: canCiteBox");
        EDGES.noEdge("Returns whether a box can be cited.", BOX);
        EDGES.sentence("Returns whether it can be cited.", () -> {
            answers("open and closed", Desks.nested(), "ynnnn", (x, n) -> x.canCiteBox(n));
            answers("all open", deep(60, 0), "n".repeat(60), (x, n) -> x.canCiteBox(n));
            for (int closed = 1; closed <= 60; closed += 59) {
                answers(closed + " of 60 boxes closed", deep(60, closed),
                        "n".repeat(60 - closed) + "y" + "n".repeat(closed - 1), (x, n) -> x.canCiteBox(n));
            }
            answers("side by side", flat(false), "y".repeat(60), (x, n) -> x.canCiteBox(n));
            answers("the last one open", flat(true), "y".repeat(59) + "n", (x, n) -> x.canCiteBox(n));
        });
        EDGES.sentence(NO_BOX, () -> noBox((x, n) -> x.canCiteBox(n)));
    }

    private static void testResultOf() {
        EDGES.section("Promise 38: resultOf");
        EDGES.sentence("Returns the result of a box, open or closed.", () -> {
            DeductionDesk desk = Desks.with("a", "b");
            desk.assume(0);
            CHECK.same("open, of one line", desk.resultOf(0), 0);
            desk.closeBox();
            CHECK.same("closed, of one line", desk.resultOf(0), 0);
            desk.assume(1);
            desk.makeConjunction(1, 1);
            CHECK.same("open, of two lines", Desks.symbols(desk, desk.resultOf(1)), "Kbb");
            desk.repeat(1);
            CHECK.same("open, of three lines", desk.resultOf(1), 1);
            desk.closeBox();
            CHECK.same("closed, of three lines", desk.resultOf(1), 1);
            desk.premise(0);
            CHECK.same("a line behind it", desk.resultOf(1), 1);
            CHECK.same("a box before it", desk.resultOf(0), 0);
        });
        EDGES.noEdge(BOX);
        EDGES.sentence("Returns the number of the formula.", () -> {
            answers("boxes in boxes", Desks.nested(), "02305", (x, n) -> x.resultOf(n));
            answers("60 boxes in one another", deep(60, 0), "01".repeat(30), (x, n) -> x.resultOf(n));
            answers("60 boxes in one another, closed", deep(60, 60), "01".repeat(30), (x, n) -> x.resultOf(n));
            answers("60 boxes side by side", flat(false), "01".repeat(30), (x, n) -> x.resultOf(n));
            DeductionDesk outer = deep(3, 2);
            CHECK.same("before the line behind the inner boxes", outer.resultOf(0), 0);
            outer.makeImplication(1);
            CHECK.same("the line behind the inner boxes", Desks.symbols(outer, outer.resultOf(0)), "Cbb");
            CHECK.same("an inner box keeps its result", outer.resultOf(1), 1);
        });
        EDGES.sentence(NO_BOX, () -> noBox((x, n) -> x.resultOf(n)));
    }

    // ---- what is needed

    private static void testNeeded() {
        EDGES.section("Promise 39: needed");
        EDGES.sentence("Returns how many lines the last line needs.", () -> {
            DeductionDesk desk = Desks.proving("a", "b", "c");
            desk.repeat(0);
            CHECK.same("not the lines between", desk.needed(), 2);
            desk.premise(0);
            CHECK.same("the last line alone", desk.needed(), 1);
        });
        EDGES.sentence("It needs itself; ..", EdgesOfQuestionsTest::testNeededLines);
        EDGES.sentence("Only lines that were looked at for a rule or a lemma are cited.", () -> {
            Supplier<DeductionDesk> kept = () -> {
                DeductionDesk x = Desks.closed(Desks.proving("a", "b"), "c");
                x.makeImplication(0);
                x.keepLemma();
                x.newProof();
                x.premise(0);
                x.keepLemma();
                x.newProof();
                x.assume(0);
                x.closeBox();
                x.makeImplication(0);
                x.keepLemma();
                x.newProof();
                x.premise(0);
                x.repeat(0);
                x.repeat(1);
                return x;
            };
            needs("a lemma with two premises", kept.get(), 4, x -> x.useLemma(0, 2, 1));
            needs("a lemma with one premise", kept.get(), 3, x -> x.useLemma(1, 1, 2));
            needs("a lemma without premises", kept.get(), 1, x -> x.useLemma(2, 1, 2));
            needs("a disjunction made of a line", kept.get(), 3, x -> x.makeDisjunction(1, 0, true));
            needs("a premise", kept.get(), 1, x -> x.premise(0));
            needs("an assumption", kept.get(), 1, x -> x.assume(0));
            DeductionDesk refused = kept.get();
            refused.repeat(0);
            CHECK.same("a refused call", Check.outcomeOf(refused, x -> x.useLemma(1, 9, 9)), 'I');
            CHECK.same("cites nothing", refused.needed(), 2);
        });
        EDGES.sentence("Returns the number of lines.", () -> {
            CHECK.same("one line", Desks.proving("a").needed(), 1);
            DeductionDesk desk = Desks.proving("a");
            for (int line = 1; line < 60; line++) {
                desk.repeat(line - 1);
                CHECK.same("all lines", desk.needed(), line + 1);
            }
            CHECK.same("the first and the last of 60", Desks.fillLines(Desks.proving("a"), 0).needed(), 2);
        });
        EDGES.sentence("Throws `NoSuchElementException` if the proof has no lines", () -> {
            CHECK.outcome("a new desk", 'N', DeductionDesk::new, x -> x.needed());
            CHECK.outcome("formulas alone", 'N', () -> Desks.with("a"), x -> x.needed());
            CHECK.outcome("a new proof", 'N', () -> {
                DeductionDesk x = Desks.nested();
                x.newProof();
                return x;
            }, x -> x.needed());
            CHECK.outcome("one line", '.', () -> Desks.proving("a"), x -> x.needed());
        });
    }

    private static void needs(String what, DeductionDesk desk, int due, Consumer<DeductionDesk> call) {
        call.accept(desk);
        CHECK.same(what, desk.needed(), due);
    }

    /** Lines whose numbers are those of boxes, and line 0, are not needed for this. */
    private static void testNumbersOfNeededLines() {
        Supplier<DeductionDesk> desk = () -> {
            DeductionDesk x = Desks.proving("e", "d", "c", "Aab", "F");
            for (String each : new String[] {"a", "b", "c"}) {
                x.assume(Desks.make(x, each));
                x.makeConjunction(2, 2);
                x.fromFalsum(4, Desks.make(x, "F"));
                x.closeBox();
            }
            return x;
        };
        // Each of the boxes 0 to 2 needs its two lines, and line 4.
        needs("two boxes and a line", desk.get(), 7, x -> x.useDisjunction(3, 0, 1));
        needs("an implication by a box", desk.get(), 4, x -> x.makeImplication(2));
        needs("a negation by a box", desk.get(), 4, x -> x.makeNegation(1));
        needs("a formula from falsum", desk.get(), 2, x -> x.fromFalsum(4, 0));
        needs("a conjunction", desk.get(), 3, x -> x.makeConjunction(2, 3));
        needs("a repeated line", desk.get(), 2, x -> x.repeat(2));
    }

    private static void testNeededLines() {
        // In the workshop, each box has a first line and a line from falsum, which is line 0.
        int[] due = {1, 1, 2, 3, 2, 2, 2, 2, 7, 4, 3, 4, 3, 2, 2, 2};
        for (int i = 0; i < due.length; i++) {
            needs("entering call " + i, Desks.workshop(), due[i], Desks.ENTERING.get(i));
        }
        testNumbersOfNeededLines();
        needs("a line twice", Desks.proving("a"), 2, x -> x.makeConjunction(0, 0));
        needs("a box of one line", Desks.closed(new DeductionDesk(), "a"), 2, x -> x.makeImplication(0));
        needs("the same box twice", Desks.closed(Desks.proving("Aaa"), "a"), 3, x -> x.useDisjunction(0, 0, 0));
        DeductionDesk longer = Desks.proving("F");
        longer.assume(0);
        for (int i = 0; i < 10; i++) {
            longer.repeat(0);
        }
        longer.closeBox();
        needs("a box of many lines", longer, 4, x -> x.makeImplication(0));
        DeductionDesk inner = Desks.proving("F");
        inner.assume(0);
        inner.repeat(1);
        inner.assume(0);
        inner.repeat(3);
        inner.closeBox();
        inner.closeBox();
        needs("not the last line of a box in it", inner, 3, x -> x.makeImplication(0));
        needs("the lines that the box needs for this", inner, 4, x -> x.repeat(5));
        DeductionDesk behind = Desks.proving("F");
        behind.assume(0);
        behind.assume(0);
        behind.repeat(0);
        behind.closeBox();
        behind.makeImplication(1);
        behind.closeBox();
        needs("a box whose last line needs another box", behind, 6, x -> x.makeImplication(0));
        DeductionDesk shared = Desks.proving("a");
        shared.makeConjunction(0, 0);
        shared.makeConjunction(1, 0);
        needs("a line that is needed by two ways", shared, 4, x -> x.makeConjunction(2, 1));
    }
}
