import java.util.ArrayList;
import java.util.List;
import java.util.function.Consumer;
import java.util.function.Function;
import java.util.function.Supplier;

/** What the tests do with desks again and again. */
final class Desks {
    /** The calls that enter a line on the workshop's desk, in the order in which the document lists the rules. */
    static final List<Consumer<DeductionDesk>> ENTERING = List.of(
            x -> x.premise(1), x -> x.assume(1), x -> x.repeat(1), x -> x.makeConjunction(2, 3),
            x -> x.useConjunction(2, false), x -> x.useConjunction(2, true), x -> x.makeDisjunction(4, 2, false),
            x -> x.makeDisjunction(4, 2, true), x -> x.useDisjunction(1, 0, 1), x -> x.makeImplication(0),
            x -> x.useImplication(3, 4), x -> x.makeNegation(2), x -> x.useNegation(5, 4), x -> x.fromFalsum(0, 5),
            x -> x.doubleNegation(6), x -> x.useLemma(0, 0, 0));

    private Desks() {
    }

    /** Makes the formula with these symbols and returns its number. */
    static int make(DeductionDesk desk, String symbols) {
        int[] place = {0};
        return makeFrom(desk, symbols, place);
    }

    private static int makeFrom(DeductionDesk desk, String symbols, int[] place) {
        char symbol = symbols.charAt(place[0]++);
        if (symbol == 'F') {
            return desk.falsum();
        }
        if (symbol >= 'a') {
            return desk.letter(symbol - 'a');
        }
        int left = makeFrom(desk, symbols, place);
        if (symbol == 'N') {
            return desk.negation(left);
        }
        int right = makeFrom(desk, symbols, place);
        return symbol == 'K' ? desk.conjunction(left, right)
                : symbol == 'A' ? desk.disjunction(left, right) : desk.implication(left, right);
    }

    static String symbols(DeductionDesk desk, int formula) {
        StringBuilder text = new StringBuilder();
        int size = desk.sizeOf(formula);
        for (int i = 0; i < size; i++) {
            text.append(desk.symbolAt(formula, i));
        }
        return text.toString();
    }

    /** Returns the symbols of the formula of a line. */
    static String shown(DeductionDesk desk, int line) {
        return symbols(desk, desk.formulaOf(line));
    }

    static DeductionDesk with(String... formulas) {
        DeductionDesk desk = new DeductionDesk();
        for (String each : formulas) {
            make(desk, each);
        }
        return desk;
    }

    /** Returns a desk whose first lines are these premises. */
    static DeductionDesk proving(String... premises) {
        DeductionDesk desk = new DeductionDesk();
        for (String each : premises) {
            desk.premise(make(desk, each));
        }
        return desk;
    }

    /** Makes formulas until 150 are known: letters from 'a' on, each with all its negations; falsum is not made. */
    static DeductionDesk fillFormulas(DeductionDesk desk) {
        int count = desk.formulas();
        for (int letter = 0; letter < 5; letter++) {
            int formula = -1;
            for (int size = 1; size <= 30 && count < 150; size++) {
                formula = size == 1 ? desk.letter(letter) : desk.negation(formula);
                count = formula == count ? count + 1 : count;
            }
        }
        return desk;
    }

    /** Makes formulas of one letter, by the connectives alone, until this number of formulas is known. */
    static DeductionDesk fillWith(DeductionDesk desk, int letter, int due) {
        List<Integer> chain = new ArrayList<>();
        int count = desk.formulas();
        for (int i = 0; count < due; i++) {
            int leaf = i == 0 ? -1 : chain.get(0);
            int part = i == 0 ? -1 : chain.get((i - 1) / 3);
            int made = i == 0 ? desk.letter(letter)
                    : i % 3 == 1 ? desk.disjunction(leaf, part)
                    : i % 3 == 2 ? desk.implication(leaf, part) : desk.conjunction(leaf, part);
            chain.add(made);
            count = made == count ? count + 1 : count;
        }
        return desk;
    }

    /** Repeats a line until there are 60. */
    static DeductionDesk fillLines(DeductionDesk desk, int line) {
        return fillLinesTo(desk, line, 60);
    }

    static DeductionDesk fillLinesTo(DeductionDesk desk, int line, int due) {
        for (int lines = desk.lines(); lines < due; lines++) {
            desk.repeat(line);
        }
        return desk;
    }

    /** Appends a closed box; line 0 has to be falsum. */
    static DeductionDesk box(DeductionDesk desk, String assumption, String result) {
        desk.assume(make(desk, assumption));
        desk.fromFalsum(0, make(desk, result));
        desk.closeBox();
        return desk;
    }

    /** Appends a box of one line, which cannot be cited any more. */
    static DeductionDesk closed(DeductionDesk desk, String assumption) {
        desk.assume(make(desk, assumption));
        desk.closeBox();
        return desk;
    }

    /**
     * Lines 0 to 7: a premise, box 0 with box 1 and box 2 in it, a line between these and one behind, and box 3,
     * which is open as well as box 4 in it; box 0 to 2 are closed. Formulas 0 to 5 are a to e and falsum.
     */
    static DeductionDesk nested() {
        DeductionDesk desk = proving("a");
        for (String each : new String[] {"b", "c", "d", "e", "F"}) {
            make(desk, each);
        }
        desk.assume(1);
        desk.assume(2);
        desk.closeBox();
        desk.repeat(0);
        desk.assume(3);
        desk.closeBox();
        desk.closeBox();
        desk.assume(4);
        desk.repeat(0);
        desk.assume(5);
        return desk;
    }

    /** The premise is line 0; the other lines have all the same formula, and lie in boxes as on the nested desk. */
    static Supplier<DeductionDesk> nested(String premise, String formula) {
        return () -> enterNested(new DeductionDesk(), premise, formula);
    }

    static DeductionDesk enterNested(DeductionDesk desk, String premise, String formula) {
        desk.premise(make(desk, premise));
        int number = make(desk, formula);
        desk.premise(number);
        desk.assume(number);
        desk.assume(number);
        desk.closeBox();
        desk.repeat(1);
        desk.assume(number);
        desk.closeBox();
        desk.closeBox();
        desk.assume(number);
        desk.repeat(1);
        desk.assume(number);
        return desk;
    }

    /** A desk whose proof has one line, a, and had more lines and boxes before. */
    static DeductionDesk begunAnew() {
        DeductionDesk desk = nested();
        desk.newProof();
        desk.premise(0);
        return desk;
    }

    /**
     * A desk on which each call that enters a line can be done. Lines 0 to 6 are the premises F, Aab, Kab, Cab, a,
     * Na and NNa; the closed boxes 0 to 2 lead from a to c, from b to c and from a to F, by lines 7 to 12. Lemma 0
     * tells that F follows from F. Formulas 0 to 7 are F, a, b, Aab, Kab, Cab, Na and NNa, and 8 is c.
     */
    static DeductionDesk workshop() {
        DeductionDesk desk = proving("F");
        desk.keepLemma();
        for (String each : new String[] {"Aab", "Kab", "Cab", "a", "Na", "NNa"}) {
            desk.premise(make(desk, each));
        }
        return box(box(box(desk, "a", "c"), "b", "c"), "a", "F");
    }

    /**
     * A desk on which each formula of a list has a great distance: an implication from the one before adds 1,
     * and one from a conjunction of the one before with itself adds 2 to twice its distance. The formulas that
     * begin with e cannot be used, since e is never reached.
     */
    static DeductionDesk chain(String steps) {
        List<String> fresh = new ArrayList<>(List.of("b", "c", "d"));
        for (String end : new String[] {"", "Ce", "CeCe"}) {
            for (String letter : new String[] {"a", "b", "c", "d", "e"}) {
                fresh.add("Ce" + end + letter);
            }
        }
        DeductionDesk desk = proving("a");
        String last = "a";
        for (int i = 0; i < steps.length(); i++) {
            String left = steps.charAt(i) == 'd' ? "K" + last + last : last;
            last = fresh.get(i);
            desk.premise(make(desk, "C" + left + last));
        }
        return desk;
    }

    /** Returns what can be seen of a desk, in views of some 250 calls at most; they change the desk. */
    static List<Function<DeductionDesk, String>> viewsOf(DeductionDesk desk) {
        List<Function<DeductionDesk, String>> views = new ArrayList<>();
        views.add(Desks::viewOfLines);
        views.add(Desks::viewOfBoxes);
        int formulas = desk.formulas();
        for (int first = 0; first < formulas; first += 8) {
            int start = first;
            views.add(x -> viewOfFormulas(x, start));
        }
        return views;
    }

    private static String viewOfFormulas(DeductionDesk desk, int first) {
        int formulas = desk.formulas();
        StringBuilder text = new StringBuilder().append(formulas);
        for (int i = first; i < Math.min(first + 8, formulas); i++) {
            text.append(' ').append(symbols(desk, i)).append(desk.models(i));
        }
        return text.toString();
    }

    private static String viewOfLines(DeductionDesk desk) {
        int lines = desk.lines();
        StringBuilder text = new StringBuilder().append(lines);
        for (int i = 0; i < lines; i++) {
            text.append(' ').append(desk.formulaOf(i)).append(desk.ruleOf(i)).append(desk.depthOf(i));
            text.append(desk.canCite(i));
        }
        if (lines > 0) {
            text.append(' ').append(desk.needed()).append(' ').append(desk.meanSize());
        }
        return text.append(' ').append(desk.newProof()).toString();
    }

    private static String viewOfBoxes(DeductionDesk desk) {
        int boxes = desk.boxes();
        int lemmas = desk.lemmas();
        StringBuilder text = new StringBuilder().append(boxes).append(' ').append(lemmas);
        for (int i = 0; i < boxes; i++) {
            text.append(' ').append(desk.canCiteBox(i)).append(desk.resultOf(i));
        }
        for (int i = 0; i < 5 && desk.formulas() > 0; i++) {
            text.append(' ').append(desk.bind(i, 0));
        }
        for (int i = 0; i < lemmas; i++) {
            int lemma = i;
            text.append(' ').append(desk.conclusionOf(i)).append(Check.outcomeOf(desk, x -> x.useLemma(lemma, 0, 1)));
            text.append(Check.outcomeOf(desk, x -> x.useLemma(lemma, 1, 0)));
        }
        for (int i = 0; i <= boxes; i++) {
            text.append(' ').append(Check.outcomeOf(desk, x -> x.closeBox()));
        }
        return text.toString();
    }
}
