/** What the tests do with desks again and again. */
final class Desks {
    private Desks() {
    }

    /** Makes the formula with these symbols and returns its number. */
    static int make(DeductionDesk desk, String symbols) {
        int[] place = {0};
        return makeFrom(desk, symbols, place);
    }

    private static int makeFrom(DeductionDesk desk, String symbols, int[] place) {
        char symbol = symbols.charAt(place[0]++);
        if (symbol == 'F') {
            return desk.falsum();
        }
        if (symbol >= 'a') {
            return desk.letter(symbol - 'a');
        }
        int left = makeFrom(desk, symbols, place);
        if (symbol == 'N') {
            return desk.negation(left);
        }
        int right = makeFrom(desk, symbols, place);
        return symbol == 'K' ? desk.conjunction(left, right)
                : symbol == 'A' ? desk.disjunction(left, right) : desk.implication(left, right);
    }

    static String symbols(DeductionDesk desk, int formula) {
        StringBuilder text = new StringBuilder();
        int size = desk.sizeOf(formula);
        for (int i = 0; i < size; i++) {
            text.append(desk.symbolAt(formula, i));
        }
        return text.toString();
    }

    /** Returns the symbols of the formula of a line. */
    static String shown(DeductionDesk desk, int line) {
        return symbols(desk, desk.formulaOf(line));
    }

    static DeductionDesk with(String... formulas) {
        DeductionDesk desk = new DeductionDesk();
        for (String each : formulas) {
            make(desk, each);
        }
        return desk;
    }

    /** Returns a desk whose first lines are these premises. */
    static DeductionDesk proving(String... premises) {
        DeductionDesk desk = new DeductionDesk();
        for (String each : premises) {
            desk.premise(make(desk, each));
        }
        return desk;
    }

    /** Makes formulas until 150 are known: letters from 'a' on, each with all its negations; falsum is not made. */
    static DeductionDesk fillFormulas(DeductionDesk desk) {
        int count = desk.formulas();
        for (int letter = 0; letter < 5; letter++) {
            int formula = -1;
            for (int size = 1; size <= 30 && count < 150; size++) {
                formula = size == 1 ? desk.letter(letter) : desk.negation(formula);
                count = formula == count ? count + 1 : count;
            }
        }
        return desk;
    }

    /** Repeats a line until there are 60. */
    static DeductionDesk fillLines(DeductionDesk desk, int line) {
        for (int lines = desk.lines(); lines < 60; lines++) {
            desk.repeat(line);
        }
        return desk;
    }

    /** Tells what can be asked of a desk, in at most some 220 calls; the last of them change it. */
    static String picture(DeductionDesk desk) {
        StringBuilder text = new StringBuilder();
        int formulas = desk.formulas();
        int lines = desk.lines();
        int boxes = desk.boxes();
        int lemmas = desk.lemmas();
        text.append(formulas).append(' ').append(lines).append(' ').append(boxes).append(' ').append(lemmas);
        for (int i = Math.max(0, formulas - 3); i < formulas; i++) {
            text.append(' ').append(symbols(desk, i));
        }
        for (int i = Math.max(0, lines - 6); i < lines; i++) {
            text.append(' ').append(desk.formulaOf(i)).append(desk.ruleOf(i)).append(desk.depthOf(i));
            text.append(desk.canCite(i));
        }
        for (int i = Math.max(0, boxes - 3); i < boxes; i++) {
            text.append(' ').append(desk.canCiteBox(i)).append(desk.resultOf(i));
        }
        for (int i = 0; i < lemmas; i++) {
            text.append(' ').append(desk.conclusionOf(i));
        }
        if (lines > 0) {
            text.append(' ').append(desk.needed()).append(' ').append(desk.meanSize());
        }
        for (int i = 0; i < 5 && formulas > 0; i++) {
            text.append(' ').append(desk.bind(i, 0));
        }
        try {
            text.append(' ').append(desk.closeBox());
        } catch (IllegalStateException e) {
            text.append(" no box");
        }
        return text.append(' ').append(desk.newProof()).toString();
    }
}
