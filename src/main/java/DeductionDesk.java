import java.util.NoSuchElementException;

/**
 * A desk for one natural deduction in propositional logic; the document says what each call does. Each call tests
 * its arguments in the order in which the document lists the exceptions, and changes nothing before the last test,
 * so that a call that throws leaves everything as it was.
 */
public final class DeductionDesk {
    private static final int NONE = -1;
    private static final int LETTERS = 5;
    private static final int VALUATIONS = 32;
    private static final int MOST_SYMBOLS = 30;
    private static final int MOST_FORMULAS = 150;
    private static final int MOST_LINES = 60;
    private static final int MOST_LEMMAS = 8;
    private static final int MOST_PREMISES = 2;
    private static final int MOST_DISTANCE = 9999;

    private final Formulas known;
    private final Proof proof;
    private final Lemmas kept;
    private final Search search;
    private final Text text;

    public DeductionDesk() {
        Formulas none = new Formulas();
        Proof empty = new Proof(none);
        known = none;
        proof = empty;
        kept = new Lemmas(none);
        search = new Search(none, empty);
        text = new Text();
    }

    // ---- formulas

    public int letter(int letter) throws IllegalArgumentException, IllegalStateException {
        requireLetter(letter);
        return made(known.enter((char) ('a' + letter), NONE, NONE));
    }

    public int falsum() throws IllegalStateException {
        return made(known.enter('F', NONE, NONE));
    }

    public int negation(int formula) throws IndexOutOfBoundsException, IllegalStateException {
        requireFormula(formula);
        return made(known.enter('N', formula, NONE));
    }

    public int conjunction(int left, int right) throws IndexOutOfBoundsException, IllegalStateException {
        return connected('K', left, right);
    }

    public int disjunction(int left, int right) throws IndexOutOfBoundsException, IllegalStateException {
        return connected('A', left, right);
    }

    public int implication(int left, int right) throws IndexOutOfBoundsException, IllegalStateException {
        return connected('C', left, right);
    }

    public int formulas() {
        return known.count;
    }

    public int sizeOf(int formula) throws IndexOutOfBoundsException {
        requireFormula(formula);
        return known.size(formula);
    }

    public char symbolAt(int formula, int index) throws IndexOutOfBoundsException, NoSuchElementException {
        requireFormula(formula);
        if (index < 0 || index >= known.size(formula)) {
            throw new NoSuchElementException("no such symbol");
        }
        return known.symbol(formula, index);
    }

    public int bind(int letter, int formula) throws IllegalArgumentException, IndexOutOfBoundsException {
        requireLetter(letter);
        requireFormula(formula);
        int before = kept.bindings.at(letter);
        kept.bindings.put(letter, formula);
        return before;
    }

    // ---- the proof

    public int premise(int formula)
            throws IndexOutOfBoundsException, UnsupportedOperationException, IllegalStateException {
        requireFormula(formula);
        requireShape(proof.innermost == NONE);
        requireRoom();
        return proof.enter(formula, 'P');
    }

    public int assume(int formula) throws IndexOutOfBoundsException, IllegalStateException {
        requireFormula(formula);
        requireRoom();
        return proof.open(formula);
    }

    public int closeBox() throws IllegalStateException {
        if (proof.innermost == NONE) {
            throw new IllegalStateException("no box is open");
        }
        return proof.close();
    }

    public int repeat(int line) throws IndexOutOfBoundsException, NoSuchElementException, IllegalStateException {
        requireLine(line);
        requireCitable(line);
        requireRoom();
        return proof.enterCiting(proof.formula(line), 'R', line, NONE);
    }

    public int makeConjunction(int line, int other)
            throws IndexOutOfBoundsException, NoSuchElementException, IllegalStateException {
        requireTwoLines(line, other);
        requireRoom();
        int whole = made(known.enter('K', proof.formula(line), proof.formula(other)));
        return proof.enterCiting(whole, 'k', line, other);
    }

    public int useConjunction(int line, boolean isRight)
            throws IndexOutOfBoundsException, NoSuchElementException, UnsupportedOperationException,
            IllegalStateException {
        requireLine(line);
        requireCitable(line);
        int whole = proof.formula(line);
        requireShape(known.kind(whole) == 'K');
        requireRoom();
        return isRight
                ? proof.enterCiting(known.right(whole), 'r', line, NONE)
                : proof.enterCiting(known.left(whole), 'l', line, NONE);
    }

    public int makeDisjunction(int line, int formula, boolean isRight)
            throws IndexOutOfBoundsException, NoSuchElementException, IllegalStateException {
        requireLine(line);
        requireFormula(formula);
        requireCitable(line);
        requireRoom();
        int own = proof.formula(line);
        int whole = made(isRight ? known.enter('A', formula, own) : known.enter('A', own, formula));
        return proof.enterCiting(whole, isRight ? 'b' : 'a', line, NONE);
    }

    public int useDisjunction(int line, int box, int other)
            throws IndexOutOfBoundsException, NoSuchElementException, UnsupportedOperationException,
            IllegalStateException {
        requireLine(line);
        requireBox(box);
        requireBox(other);
        requireCitable(line);
        requireCitableBox(box);
        requireCitableBox(other);
        int whole = proof.formula(line);
        requireShape(known.kind(whole) == 'A');
        requireShape(proof.begin(box) == known.left(whole) && proof.begin(other) == known.right(whole));
        requireShape(proof.result(box) == proof.result(other));
        requireRoom();
        int entered = proof.enterCiting(proof.result(box), 'v', line, NONE);
        proof.citeBoxes(entered, box, other);
        return entered;
    }

    public int makeImplication(int box)
            throws IndexOutOfBoundsException, NoSuchElementException, IllegalStateException {
        requireBox(box);
        requireCitableBox(box);
        requireRoom();
        int whole = made(known.enter('C', proof.begin(box), proof.result(box)));
        int entered = proof.enter(whole, 'c');
        proof.citeBoxes(entered, box, NONE);
        return entered;
    }

    public int useImplication(int line, int other)
            throws IndexOutOfBoundsException, NoSuchElementException, UnsupportedOperationException,
            IllegalStateException {
        requireTwoLines(line, other);
        int whole = proof.formula(line);
        requireShape(known.kind(whole) == 'C' && proof.formula(other) == known.left(whole));
        requireRoom();
        return proof.enterCiting(known.right(whole), 'm', line, other);
    }

    public int makeNegation(int box)
            throws IndexOutOfBoundsException, NoSuchElementException, UnsupportedOperationException,
            IllegalStateException {
        requireBox(box);
        requireCitableBox(box);
        requireShape(known.kind(proof.result(box)) == 'F');
        requireRoom();
        int whole = made(known.enter('N', proof.begin(box), NONE));
        int entered = proof.enter(whole, 'i');
        proof.citeBoxes(entered, box, NONE);
        return entered;
    }

    public int useNegation(int line, int other)
            throws IndexOutOfBoundsException, NoSuchElementException, UnsupportedOperationException,
            IllegalStateException {
        requireTwoLines(line, other);
        int whole = proof.formula(line);
        requireShape(known.kind(whole) == 'N' && proof.formula(other) == known.left(whole));
        requireRoom();
        int falsehood = made(known.enter('F', NONE, NONE));
        return proof.enterCiting(falsehood, 'n', line, other);
    }

    public int fromFalsum(int line, int formula)
            throws IndexOutOfBoundsException, NoSuchElementException, UnsupportedOperationException,
            IllegalStateException {
        requireLine(line);
        requireFormula(formula);
        requireCitable(line);
        requireShape(known.kind(proof.formula(line)) == 'F');
        requireRoom();
        return proof.enterCiting(formula, 'x', line, NONE);
    }

    public int doubleNegation(int line)
            throws IndexOutOfBoundsException, NoSuchElementException, UnsupportedOperationException,
            IllegalStateException {
        requireLine(line);
        requireCitable(line);
        int whole = proof.formula(line);
        int negated = known.left(whole);
        requireShape(known.kind(whole) == 'N' && known.kind(negated) == 'N');
        requireRoom();
        return proof.enterCiting(known.left(negated), 'd', line, NONE);
    }

    public int newProof() {
        int before = proof.lineCount;
        proof.clear();
        return before;
    }

    // ---- lemmas

    public int keepLemma() throws NoSuchElementException, UnsupportedOperationException, IllegalStateException {
        requireLines();
        requireShape(proof.innermostOf(proof.lineCount - 1) == NONE);
        requireShape(proof.premiseCount() <= MOST_PREMISES);
        if (kept.count >= MOST_LEMMAS) {
            throw new IllegalStateException("no more lemmas can be kept");
        }
        return kept.keep(proof);
    }

    public int useLemma(int lemma, int line, int other)
            throws IndexOutOfBoundsException, NoSuchElementException, UnsupportedOperationException,
            IllegalStateException {
        requireLemma(lemma);
        boolean isFirst = kept.premiseCount(lemma) > 0;
        boolean isSecond = kept.premiseCount(lemma) > 1;
        if (isFirst) {
            requireLine(line);
        }
        if (isSecond) {
            requireLine(other);
        }
        if (isFirst) {
            requireCitable(line);
        }
        if (isSecond) {
            requireCitable(other);
        }
        int first = isFirst ? line : NONE;
        int second = isSecond ? other : NONE;
        requireShape(kept.matches(lemma, proof.formula(first), proof.formula(second)));
        requireRoom();
        kept.writeConclusion(lemma, text);
        return proof.enterCiting(made(known.read(text)), 'L', first, second);
    }

    public int lemmas() {
        return kept.count;
    }

    public int conclusionOf(int lemma) throws IndexOutOfBoundsException {
        requireLemma(lemma);
        return kept.conclusion(lemma);
    }

    // ---- questions about the proof

    public int lines() {
        return proof.lineCount;
    }

    public int formulaOf(int line) throws IndexOutOfBoundsException {
        requireLine(line);
        return proof.formula(line);
    }

    public char ruleOf(int line) throws IndexOutOfBoundsException {
        requireLine(line);
        return proof.rule(line);
    }

    public int depthOf(int line) throws IndexOutOfBoundsException {
        requireLine(line);
        return proof.depth(line);
    }

    public boolean canCite(int line) throws IndexOutOfBoundsException {
        requireLine(line);
        return proof.isCitable(line);
    }

    public int boxes() {
        return proof.boxCount;
    }

    public boolean canCiteBox(int box) throws IndexOutOfBoundsException {
        requireBox(box);
        return proof.isCitableBox(box);
    }

    public int resultOf(int box) throws IndexOutOfBoundsException {
        requireBox(box);
        return proof.result(box);
    }

    public int needed() throws NoSuchElementException {
        requireLines();
        return proof.countNeeded();
    }

    // ---- gaps and normal forms

    public int distance(int formula) throws IndexOutOfBoundsException, NoSuchElementException {
        requireFormula(formula);
        return found(search.byQueue(formula));
    }

    public int distanceByRounds(int formula) throws IndexOutOfBoundsException, NoSuchElementException {
        requireFormula(formula);
        return found(search.byRounds(formula));
    }

    public int normalStep(int formula)
            throws IndexOutOfBoundsException, NoSuchElementException, IllegalStateException {
        requireFormula(formula);
        text.copy(known, formula);
        if (!text.step()) {
            throw new NoSuchElementException("no step applies");
        }
        return made(known.read(text));
    }

    public int normalSteps(int formula) throws IndexOutOfBoundsException {
        requireFormula(formula);
        text.copy(known, formula);
        return text.stepToEnd();
    }

    public int normalForm(int formula) throws IndexOutOfBoundsException, IllegalStateException {
        requireFormula(formula);
        text.copy(known, formula);
        text.stepToEnd();
        return made(known.read(text));
    }

    // ---- truth

    public int models(int formula) throws IndexOutOfBoundsException {
        requireFormula(formula);
        return Integer.bitCount(known.table(formula));
    }

    public int modelsByRows(int formula) throws IndexOutOfBoundsException {
        requireFormula(formula);
        int trueOnes = 0;
        for (int valuation = 0; valuation < VALUATIONS; valuation++) {
            if (known.isTrue(formula, valuation)) {
                trueOnes++;
            }
        }
        return trueOnes;
    }

    public boolean follows(int formula) throws IndexOutOfBoundsException {
        requireFormula(formula);
        return isCovered(proof.citableTable(), formula);
    }

    public boolean isSound(int line) throws IndexOutOfBoundsException {
        requireLine(line);
        return isCovered(proof.premiseTable() & proof.assumptionTable(line), proof.formula(line));
    }

    public float share(int formula) throws IndexOutOfBoundsException {
        requireFormula(formula);
        return (float) Integer.bitCount(known.table(formula)) / (float) VALUATIONS;
    }

    public double meanSize() throws ArithmeticException {
        if (proof.lineCount == 0) {
            throw new ArithmeticException("the proof has no lines");
        }
        return (double) proof.sizeSum() / (double) proof.lineCount;
    }

    // ---- what the calls share

    private int connected(char kind, int left, int right) {
        requireFormula(left);
        requireFormula(right);
        return made(known.enter(kind, left, right));
    }

    private boolean isCovered(int table, int formula) {
        return (table & ~known.table(formula)) == 0;
    }

    private void requireLetter(int letter) {
        if (letter < 0 || letter >= LETTERS) {
            throw new IllegalArgumentException("no such letter");
        }
    }

    private void requireFormula(int formula) {
        if (!known.has(formula)) {
            throw new IndexOutOfBoundsException("no such formula");
        }
    }

    private void requireLine(int line) {
        if (!proof.hasLine(line)) {
            throw new IndexOutOfBoundsException("no such line");
        }
    }

    private void requireBox(int box) {
        if (!proof.hasBox(box)) {
            throw new IndexOutOfBoundsException("no such box");
        }
    }

    private void requireLemma(int lemma) {
        if (!kept.has(lemma)) {
            throw new IndexOutOfBoundsException("no such lemma");
        }
    }

    private void requireCitable(int line) {
        if (!proof.isCitable(line)) {
            throw new NoSuchElementException("the line cannot be cited");
        }
    }

    private void requireCitableBox(int box) {
        if (!proof.isCitableBox(box)) {
            throw new NoSuchElementException("the box cannot be cited");
        }
    }

    private void requireTwoLines(int line, int other) {
        requireLine(line);
        requireLine(other);
        requireCitable(line);
        requireCitable(other);
    }

    private void requireLines() {
        if (proof.lineCount == 0) {
            throw new NoSuchElementException("the proof has no lines");
        }
    }

    private void requireShape(boolean isFitting) {
        if (!isFitting) {
            throw new UnsupportedOperationException("the rule does not fit");
        }
    }

    private void requireRoom() {
        if (proof.lineCount >= MOST_LINES) {
            throw new IllegalStateException("the proof has no room for another line");
        }
    }

    private static int made(int formula) {
        if (formula == NONE) {
            throw new IllegalStateException("the formula cannot be made");
        }
        return formula;
    }

    private static int found(int distance) {
        if (distance == NONE) {
            throw new NoSuchElementException("the formula has no distance");
        }
        return distance;
    }

    /**
     * Numbers under indexes. Reading outside of them answers NONE and writing outside of them does nothing,
     * so that no index can make the machine throw, and NONE can be followed like any other number.
     */
    private static final class Row {
        private final int[] cells;

        Row(int length) {
            cells = new int[length < 0 ? 0 : length];
        }

        int at(int index) {
            return index >= 0 && index < cells.length ? cells[index] : NONE;
        }

        void put(int index, int value) {
            if (index >= 0 && index < cells.length) {
                cells[index] = value;
            }
        }

        void fill(int value) {
            for (int i = 0; i < cells.length; i++) {
                cells[i] = value;
            }
        }
    }

    /** The symbols of one formula that is being written; it need not be known, and can be too large to be made. */
    private static final class Text {
        // A step adds one symbol at most, twice at most for each of the 14 connectives that 30 symbols
        // can hold; and a text of 30 symbols is made longer by 30 at most. So 64 are enough.
        private static final int MOST_WRITTEN = 64;
        private static final int MOST_STEPS = 1000;

        private final Row symbols = new Row(MOST_WRITTEN);
        private int length;

        void clear() {
            length = 0;
        }

        char at(int index) {
            return index < length ? (char) symbols.at(index) : (char) 0;
        }

        void append(char symbol) {
            insert(length, symbol);
        }

        void appendFormula(Formulas known, int formula) {
            int size = known.size(formula);
            for (int i = 0; i < size; i++) {
                append(known.symbol(formula, i));
            }
        }

        void copy(Formulas known, int formula) {
            clear();
            appendFormula(known, formula);
        }

        /** Does the first step that applies; returns whether there was one. */
        boolean step() {
            for (int i = 0; i < length; i++) {
                char symbol = at(i);
                char next = at(i + 1);
                if (symbol == 'C') {
                    symbols.put(i, 'A');
                    insert(i + 1, 'N');
                    return true;
                }
                if (symbol == 'N' && next == 'N') {
                    remove(i);
                    remove(i);
                    return true;
                }
                if (symbol == 'N' && (next == 'K' || next == 'A')) {
                    moveNegationInward(i);
                    return true;
                }
            }
            return false;
        }

        /** Does steps until none applies; returns their number. */
        int stepToEnd() {
            int steps = 0;
            while (steps < MOST_STEPS && step()) {
                steps++;
            }
            return steps;
        }

        private void moveNegationInward(int place) {
            symbols.put(place, at(place + 1) == 'K' ? 'A' : 'K');
            symbols.put(place + 1, 'N');
            insert(endOf(place + 2), 'N');
        }

        /** Returns the index behind the formula that begins at an index. */
        private int endOf(int start) {
            int missing = 1;
            int end = start;
            while (missing > 0 && end < length) {
                char symbol = at(end);
                if (isLeaf(symbol)) {
                    missing--;
                } else if (symbol != 'N') {
                    missing++;
                }
                end++;
            }
            return end;
        }

        private void insert(int place, char symbol) {
            if (length < MOST_WRITTEN) {
                for (int i = length; i > place; i--) {
                    symbols.put(i, symbols.at(i - 1));
                }
                symbols.put(place, symbol);
                length++;
            }
        }

        private void remove(int place) {
            for (int i = place; i < length - 1; i++) {
                symbols.put(i, symbols.at(i + 1));
            }
            length--;
        }

        static boolean isLetter(char symbol) {
            return symbol >= 'a' && symbol < 'a' + LETTERS;
        }

        static boolean isLeaf(char symbol) {
            return symbol == 'F' || isLetter(symbol);
        }
    }

    /** The formulas that are known. Each one has a greater number than the formulas of which it consists. */
    private static final class Formulas {
        private final Row lefts = new Row(MOST_FORMULAS);
        private final Row rights = new Row(MOST_FORMULAS);
        private final Row sizes = new Row(MOST_FORMULAS);
        private final Row tables = new Row(MOST_FORMULAS);
        private final Row symbols = new Row(MOST_FORMULAS * MOST_SYMBOLS);
        private final Row truths = new Row(MOST_FORMULAS);
        private final Row waiting = new Row(MOST_SYMBOLS);
        private final Row waitingLefts = new Row(MOST_SYMBOLS);
        private int waitingCount;
        private int count;

        boolean has(int formula) {
            return formula >= 0 && formula < count;
        }

        /** Returns the size, 0 if there is no such formula. */
        int size(int formula) {
            return has(formula) ? sizes.at(formula) : 0;
        }

        /** Returns a symbol, one that no formula has if there is none. */
        char symbol(int formula, int index) {
            return index >= 0 && index < size(formula)
                    ? (char) symbols.at(formula * MOST_SYMBOLS + index)
                    : (char) 0;
        }

        /** Returns the first symbol, which tells what kind of formula it is. */
        char kind(int formula) {
            return has(formula) ? (char) symbols.at(formula * MOST_SYMBOLS) : (char) 0;
        }

        /** Returns the left formula or the negated one, NONE if there is none. */
        int left(int formula) {
            return has(formula) ? lefts.at(formula) : NONE;
        }

        /** Returns the right formula, NONE if there is none. */
        int right(int formula) {
            return has(formula) ? rights.at(formula) : NONE;
        }

        /** Returns the truth table: one bit for each valuation. */
        int table(int formula) {
            return tables.at(formula);
        }

        int find(char kind, int left, int right) {
            for (int formula = 0; formula < count; formula++) {
                if (kind(formula) == kind && lefts.at(formula) == left && rights.at(formula) == right) {
                    return formula;
                }
            }
            return NONE;
        }

        /** Returns the formula that consists of known ones; it becomes known. Returns NONE if it cannot be made. */
        int enter(char kind, int left, int right) {
            int before = find(kind, left, right);
            if (before != NONE) {
                return before;
            }
            boolean isTooLarge = 1 + size(left) + size(right) > MOST_SYMBOLS;
            return isTooLarge || count >= MOST_FORMULAS ? NONE : add(kind, left, right);
        }

        /** Returns the formula with these symbols; it becomes known. Returns NONE if it cannot be made. */
        int read(Text text) {
            if (text.length > MOST_SYMBOLS) {
                return NONE;
            }
            int before = count;
            int whole = NONE;
            waitingCount = 0;
            for (int i = 0; i < text.length; i++) {
                char symbol = text.at(i);
                if (!Text.isLeaf(symbol)) {
                    waiting.put(waitingCount, symbol);
                    waitingLefts.put(waitingCount, NONE);
                    waitingCount++;
                } else {
                    whole = complete(enter(symbol, NONE, NONE));
                    if (whole == NONE) {
                        count = before;
                        return NONE;
                    }
                }
            }
            return whole;
        }

        /** Hands a formula to the connectives that wait for it; returns the largest one that is whole then. */
        private int complete(int part) {
            int whole = part;
            for (int top = waitingCount - 1; top >= 0 && whole != NONE; top--) {
                char kind = (char) waiting.at(top);
                int left = waitingLefts.at(top);
                if (kind != 'N' && left == NONE) {
                    waitingLefts.put(top, whole);
                    return whole;
                }
                waitingCount = top;
                whole = kind == 'N' ? enter('N', whole, NONE) : enter(kind, left, whole);
            }
            return whole;
        }

        private int add(char kind, int left, int right) {
            int formula = count;
            int place = formula * MOST_SYMBOLS;
            symbols.put(place, kind);
            putSymbols(left, place + 1);
            putSymbols(right, place + 1 + size(left));
            sizes.put(formula, 1 + size(left) + size(right));
            lefts.put(formula, left);
            rights.put(formula, right);
            tables.put(formula, tableFrom(kind, table(left), table(right)));
            count++;
            return formula;
        }

        private void putSymbols(int formula, int place) {
            int size = size(formula);
            for (int i = 0; i < size; i++) {
                symbols.put(place + i, symbols.at(formula * MOST_SYMBOLS + i));
            }
        }

        private static int tableFrom(char kind, int left, int right) {
            if (kind == 'N') {
                return ~left;
            }
            if (kind == 'K') {
                return left & right;
            }
            if (kind == 'A') {
                return left | right;
            }
            if (kind == 'C') {
                return ~left | right;
            }
            return kind == 'F' ? 0 : letterTable(kind - 'a');
        }

        private static int letterTable(int letter) {
            int table = 0;
            for (int valuation = 0; valuation < VALUATIONS; valuation++) {
                if (isLetterTrue(letter, valuation)) {
                    table |= 1 << valuation;
                }
            }
            return table;
        }

        private static boolean isLetterTrue(int letter, int valuation) {
            return (valuation >> letter & 1) == 1;
        }

        /** Returns whether a formula is true for one valuation, without its table. */
        boolean isTrue(int formula, int valuation) {
            for (int part = 0; part <= formula && part < count; part++) {
                truths.put(part, isTrueFromParts(part, valuation) ? 1 : 0);
            }
            return truths.at(formula) == 1;
        }

        private boolean isTrueFromParts(int formula, int valuation) {
            boolean isLeft = truths.at(lefts.at(formula)) == 1;
            boolean isRight = truths.at(rights.at(formula)) == 1;
            char kind = kind(formula);
            if (kind == 'N') {
                return !isLeft;
            }
            if (kind == 'K') {
                return isLeft && isRight;
            }
            if (kind == 'A') {
                return isLeft || isRight;
            }
            if (kind == 'C') {
                return !isLeft || isRight;
            }
            return kind != 'F' && isLetterTrue(kind - 'a', valuation);
        }
    }

    /** The lines and the boxes of the proof. Lines cite earlier lines only, and boxes lie in earlier boxes only. */
    private static final class Proof {
        private final Formulas known;
        private final Row formulaRow = new Row(MOST_LINES);
        private final Row ruleRow = new Row(MOST_LINES);
        private final Row innermostRow = new Row(MOST_LINES);
        private final Row citedLines = new Row(MOST_LINES);
        private final Row citedOthers = new Row(MOST_LINES);
        private final Row citedBoxes = new Row(MOST_LINES);
        private final Row citedOtherBoxes = new Row(MOST_LINES);
        private final Row marks = new Row(MOST_LINES);
        // An assumption opens a box, so there are not more boxes than lines.
        private final Row firstLines = new Row(MOST_LINES);
        private final Row lastLines = new Row(MOST_LINES);
        private final Row outerBoxes = new Row(MOST_LINES);
        private final Row openness = new Row(MOST_LINES);
        private int lineCount;
        private int boxCount;
        private int innermost = NONE;

        Proof(Formulas known) {
            this.known = known;
        }

        void clear() {
            lineCount = 0;
            boxCount = 0;
            innermost = NONE;
        }

        boolean hasLine(int line) {
            return line >= 0 && line < lineCount;
        }

        boolean hasBox(int box) {
            return box >= 0 && box < boxCount;
        }

        int formula(int line) {
            return formulaRow.at(line);
        }

        char rule(int line) {
            return (char) ruleRow.at(line);
        }

        /** Returns the box in which a line lies directly, NONE if it lies in none. */
        int innermostOf(int line) {
            return innermostRow.at(line);
        }

        /** Returns the formula of the first line of a box. */
        int begin(int box) {
            return formula(firstLines.at(box));
        }

        int result(int box) {
            return formula(lastLines.at(box));
        }

        int enter(int formula, char rule) {
            int line = lineCount;
            formulaRow.put(line, formula);
            ruleRow.put(line, rule);
            innermostRow.put(line, innermost);
            citedLines.put(line, NONE);
            citedOthers.put(line, NONE);
            citedBoxes.put(line, NONE);
            citedOtherBoxes.put(line, NONE);
            lastLines.put(innermost, line);
            lineCount++;
            return line;
        }

        int enterCiting(int formula, char rule, int cited, int other) {
            int line = enter(formula, rule);
            citedLines.put(line, cited);
            citedOthers.put(line, other);
            return line;
        }

        void citeBoxes(int line, int box, int other) {
            citedBoxes.put(line, box);
            citedOtherBoxes.put(line, other);
        }

        int open(int formula) {
            int box = boxCount;
            outerBoxes.put(box, innermost);
            openness.put(box, 1);
            firstLines.put(box, lineCount);
            innermost = box;
            boxCount++;
            return enter(formula, 'H');
        }

        int close() {
            int box = innermost;
            openness.put(box, 0);
            innermost = outerBoxes.at(box);
            return box;
        }

        int depth(int line) {
            int box = innermostOf(line);
            int depth = 0;
            while (box != NONE && depth < MOST_LINES) {
                box = outerBoxes.at(box);
                depth++;
            }
            return depth;
        }

        // The innermost open box is always the one that is closed, so an open box lies in open boxes only.
        private boolean isOpenOrNone(int box) {
            return box == NONE || openness.at(box) == 1;
        }

        boolean isCitable(int line) {
            return isOpenOrNone(innermostOf(line));
        }

        boolean isCitableBox(int box) {
            return openness.at(box) == 0 && isOpenOrNone(outerBoxes.at(box));
        }

        boolean isPremise(int line) {
            return rule(line) == 'P';
        }

        int premiseCount() {
            int premises = 0;
            for (int line = 0; line < lineCount; line++) {
                if (isPremise(line)) {
                    premises++;
                }
            }
            return premises;
        }

        int countNeeded() {
            marks.fill(0);
            marks.put(lineCount - 1, 1);
            int lines = 0;
            for (int line = lineCount - 1; line >= 0; line--) {
                if (marks.at(line) == 1) {
                    lines++;
                    marks.put(citedLines.at(line), 1);
                    marks.put(citedOthers.at(line), 1);
                    markEnds(citedBoxes.at(line));
                    markEnds(citedOtherBoxes.at(line));
                }
            }
            return lines;
        }

        private void markEnds(int box) {
            marks.put(firstLines.at(box), 1);
            marks.put(lastLines.at(box), 1);
        }

        int sizeSum() {
            int sum = 0;
            for (int line = 0; line < lineCount; line++) {
                sum += known.size(formula(line));
            }
            return sum;
        }

        /** Returns the table of the valuations for which the formulas of all lines that can be cited are true. */
        int citableTable() {
            int table = ~0;
            for (int line = 0; line < lineCount; line++) {
                if (isCitable(line)) {
                    table &= known.table(formula(line));
                }
            }
            return table;
        }

        int premiseTable() {
            int table = ~0;
            for (int line = 0; line < lineCount; line++) {
                if (isPremise(line)) {
                    table &= known.table(formula(line));
                }
            }
            return table;
        }

        /** Returns the table of the valuations for which the assumptions of all boxes around a line are true. */
        int assumptionTable(int line) {
            int table = ~0;
            int box = innermostOf(line);
            for (int depth = 0; box != NONE && depth < MOST_LINES; depth++) {
                table &= known.table(begin(box));
                box = outerBoxes.at(box);
            }
            return table;
        }
    }

    /** The lemmas that are kept, the formulas to which letters are bound, and the instance that was matched last. */
    private static final class Lemmas {
        private final Formulas known;
        private final Row premiseCounts = new Row(MOST_LEMMAS);
        private final Row firstPremises = new Row(MOST_LEMMAS);
        private final Row secondPremises = new Row(MOST_LEMMAS);
        private final Row conclusions = new Row(MOST_LEMMAS);
        private final Row bindings = new Row(LETTERS);
        private final Row images = new Row(MOST_FORMULAS);
        private int count;

        Lemmas(Formulas known) {
            this.known = known;
            bindings.fill(NONE);
        }

        boolean has(int lemma) {
            return lemma >= 0 && lemma < count;
        }

        int premiseCount(int lemma) {
            return premiseCounts.at(lemma);
        }

        int conclusion(int lemma) {
            return conclusions.at(lemma);
        }

        int keep(Proof proof) {
            int lemma = count;
            int premises = 0;
            for (int line = 0; line < proof.lineCount; line++) {
                if (proof.isPremise(line)) {
                    Row row = premises == 0 ? firstPremises : secondPremises;
                    row.put(lemma, proof.formula(line));
                    premises++;
                }
            }
            premiseCounts.put(lemma, premises);
            conclusions.put(lemma, proof.formula(proof.lineCount - 1));
            count++;
            return lemma;
        }

        /**
         * Returns whether there is an instance whose premises are these formulas, and remembers it. The formula
         * that stands for a part is handed on to the parts of this one, which have smaller numbers.
         */
        boolean matches(int lemma, int first, int second) {
            int premises = premiseCount(lemma);
            images.fill(NONE);
            if (premises > 0) {
                images.put(firstPremises.at(lemma), first);
            }
            if (premises > 1 && !setImage(secondPremises.at(lemma), second)) {
                return false;
            }
            for (int part = known.count - 1; part >= 0; part--) {
                if (images.at(part) != NONE && !handOn(part, images.at(part))) {
                    return false;
                }
            }
            return true;
        }

        private boolean handOn(int part, int image) {
            char kind = known.kind(part);
            if (Text.isLetter(kind)) {
                return true;
            }
            return known.kind(image) == kind
                    && setImage(known.left(part), known.left(image))
                    && setImage(known.right(part), known.right(image));
        }

        /** Returns whether a part can stand for this formula, and not for another one already. */
        private boolean setImage(int part, int image) {
            int before = images.at(part);
            images.put(part, image);
            return before == NONE || before == image;
        }

        /** Writes the conclusion of the instance; it breaks off where it is too large to be made. */
        void writeConclusion(int lemma, Text text) {
            int conclusion = conclusion(lemma);
            text.clear();
            int size = known.size(conclusion);
            for (int i = 0; i < size && text.length <= MOST_SYMBOLS; i++) {
                char symbol = known.symbol(conclusion, i);
                if (Text.isLetter(symbol)) {
                    text.appendFormula(known, replacement(symbol));
                } else {
                    text.append(symbol);
                }
            }
        }

        private int replacement(char symbol) {
            int itself = known.find(symbol, NONE, NONE);
            int image = images.at(itself);
            int bound = bindings.at(symbol - 'a');
            if (image != NONE) {
                return image;
            }
            return bound != NONE ? bound : itself;
        }
    }

    /** The distances of the formulas in view of one goal. Falsum is in view even where it is not known. */
    private static final class Search {
        private static final int FALSUM_NOT_KNOWN = MOST_FORMULAS;
        private static final int PLACES = MOST_FORMULAS + 1;

        private final Formulas known;
        private final Proof proof;
        private final Row views = new Row(PLACES);
        private final Row distances = new Row(PLACES);
        private final Row queue = new Row(PLACES);
        private int queueStart;
        private int queueEnd;
        private boolean isQueueing;
        private int falsehood;
        private int changes;

        Search(Formulas known, Proof proof) {
            this.known = known;
            this.proof = proof;
        }

        /** Returns the distance or NONE: no distance can become less once it is the least one in the queue. */
        int byQueue(int goal) {
            begin(goal, true);
            for (int turn = 0; turn < PLACES && queueStart < queueEnd; turn++) {
                int nearest = queue.at(queueStart);
                queueStart++;
                if (nearest == goal) {
                    return distances.at(goal);
                }
                for (int formula = 0; formula < PLACES; formula++) {
                    if (views.at(formula) == 1 && concerns(nearest, formula)) {
                        applyRules(formula);
                    }
                }
            }
            return distances.at(goal);
        }

        /** Returns the distance or NONE: each round but the last settles at least one more formula. */
        int byRounds(int goal) {
            begin(goal, false);
            int before = NONE;
            for (int round = 0; round <= PLACES && changes != before; round++) {
                before = changes;
                for (int formula = 0; formula < PLACES; formula++) {
                    if (views.at(formula) == 1) {
                        applyRules(formula);
                    }
                }
            }
            return distances.at(goal);
        }

        private void begin(int goal, boolean isByQueue) {
            int falsum = known.find('F', NONE, NONE);
            falsehood = falsum != NONE ? falsum : FALSUM_NOT_KNOWN;
            isQueueing = isByQueue;
            queueStart = 0;
            queueEnd = 0;
            changes = 0;
            views.fill(0);
            distances.fill(NONE);
            views.put(goal, 1);
            views.put(falsehood, 1);
            for (int line = 0; line < proof.lineCount; line++) {
                if (proof.isCitable(line)) {
                    views.put(proof.formula(line), 1);
                    offer(proof.formula(line), 0);
                }
            }
            for (int formula = known.count - 1; formula >= 0; formula--) {
                if (views.at(formula) == 1) {
                    views.put(known.left(formula), 1);
                    views.put(known.right(formula), 1);
                }
            }
        }

        private boolean concerns(int nearest, int formula) {
            return nearest == formula || nearest == falsehood
                    || nearest == known.left(formula) || nearest == known.right(formula);
        }

        /** Applies all rules that use a formula and its two formulas, or that find it from these or from falsum. */
        private void applyRules(int formula) {
            int left = known.left(formula);
            int right = known.right(formula);
            char kind = known.kind(formula);
            offer(formula, beyond(falsehood));
            if (kind == 'K') {
                offer(formula, beyondBoth(left, right));
                offer(left, beyond(formula));
                offer(right, beyond(formula));
            } else if (kind == 'A') {
                offer(formula, beyond(left));
                offer(formula, beyond(right));
            } else if (kind == 'C') {
                offer(right, beyondBoth(formula, left));
            } else if (kind == 'N') {
                offer(falsehood, beyondBoth(formula, left));
                if (known.kind(left) == 'N') {
                    offer(known.left(left), beyond(formula));
                }
            }
        }

        private int beyond(int source) {
            int distance = distances.at(source);
            return distance == NONE ? NONE : counting(1 + distance);
        }

        private int beyondBoth(int source, int other) {
            int distance = distances.at(source);
            int otherDistance = distances.at(other);
            return distance == NONE || otherDistance == NONE ? NONE : counting(1 + distance + otherDistance);
        }

        private static int counting(int distance) {
            return distance > MOST_DISTANCE ? NONE : distance;
        }

        private void offer(int target, int distance) {
            int before = distances.at(target);
            if (distance != NONE && (before == NONE || distance < before)) {
                distances.put(target, distance);
                changes++;
                if (isQueueing) {
                    moveForward(target, before == NONE);
                }
            }
        }

        private void moveForward(int formula, boolean isNew) {
            int place = queueEnd;
            if (isNew) {
                queueEnd++;
            } else {
                place = placeInQueue(formula);
            }
            while (place > queueStart && distances.at(queue.at(place - 1)) > distances.at(formula)) {
                queue.put(place, queue.at(place - 1));
                place--;
            }
            queue.put(place, formula);
        }

        private int placeInQueue(int formula) {
            int place = queueStart;
            while (place < queueEnd && queue.at(place) != formula) {
                place++;
            }
            return place;
        }
    }
}
