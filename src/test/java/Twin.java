import java.util.ArrayList;
import java.util.HashMap;
import java.util.LinkedHashSet;
import java.util.List;
import java.util.Map;
import java.util.NoSuchElementException;
import java.util.Set;

/** The document once more, in another form: formulas are texts, parts are found by reading them. */
public final class Twin {
    private record Lemma(List<String> premises, String conclusion) {
    }

    private static final class Box {
        final Box outer;
        final List<Line> direct = new ArrayList<>();
        boolean isOpen = true;

        Box(Box outer) {
            this.outer = outer;
        }

        boolean canBeCited() {
            return !isOpen && (outer == null || outer.isOpen);
        }

        String begin() {
            return direct.get(0).formula;
        }

        Line last() {
            return direct.get(direct.size() - 1);
        }
    }

    private static final class Line {
        final String formula;
        final char rule;
        final Box box;
        final List<Line> cited = new ArrayList<>();

        Line(String formula, char rule, Box box) {
            this.formula = formula;
            this.rule = rule;
            this.box = box;
        }

        boolean canBeCited() {
            for (Box each = box; each != null; each = each.outer) {
                if (!each.isOpen) {
                    return false;
                }
            }
            return true;
        }
    }

    private final List<String> known = new ArrayList<>();
    private final Map<Character, String> bindings = new HashMap<>();
    private final List<Lemma> kept = new ArrayList<>();
    private List<Line> proof = new ArrayList<>();
    private List<Box> opened = new ArrayList<>();
    private Box current = null;

    // ---- texts

    private static boolean isBinary(char symbol) {
        return "KAC".indexOf(symbol) >= 0;
    }

    private static int end(String text, int start) {
        char symbol = text.charAt(start);
        if (symbol == 'N') {
            return end(text, start + 1);
        }
        return isBinary(symbol) ? end(text, end(text, start + 1)) : start + 1;
    }

    private static String left(String text) {
        return text.substring(1, end(text, 1));
    }

    private static String right(String text) {
        return text.substring(end(text, 1));
    }

    private static void collect(String text, Set<String> parts) {
        char symbol = text.charAt(0);
        if (symbol == 'N' || isBinary(symbol)) {
            collect(left(text), parts);
        }
        if (isBinary(symbol)) {
            collect(right(text), parts);
        }
        parts.add(text);
    }

    private int learn(String text) {
        Set<String> fresh = new LinkedHashSet<>();
        if (text.length() <= 30) {
            collect(text, fresh);
        }
        fresh.removeAll(known);
        if (text.length() > 30 || known.size() + fresh.size() > 150) {
            throw new IllegalStateException();
        }
        known.addAll(fresh);
        return known.indexOf(text);
    }

    // ---- tests of arguments

    private String formula(int number) {
        if (number < 0 || number >= known.size()) {
            throw new IndexOutOfBoundsException();
        }
        return known.get(number);
    }

    private Line line(int number) {
        if (number < 0 || number >= proof.size()) {
            throw new IndexOutOfBoundsException();
        }
        return proof.get(number);
    }

    private Box box(int number) {
        if (number < 0 || number >= opened.size()) {
            throw new IndexOutOfBoundsException();
        }
        return opened.get(number);
    }

    private Lemma lemma(int number) {
        if (number < 0 || number >= kept.size()) {
            throw new IndexOutOfBoundsException();
        }
        return kept.get(number);
    }

    private static void cite(boolean canBeCited) {
        if (!canBeCited) {
            throw new NoSuchElementException();
        }
    }

    private static void fit(boolean isFitting) {
        if (!isFitting) {
            throw new UnsupportedOperationException();
        }
    }

    private void room() {
        if (proof.size() == 60) {
            throw new IllegalStateException();
        }
    }

    private int write(String formula, char rule, Line... cited) {
        room();
        learn(formula);
        Line line = new Line(formula, rule, current);
        line.cited.addAll(List.of(cited));
        proof.add(line);
        if (current != null) {
            current.direct.add(line);
        }
        return proof.size() - 1;
    }

    // ---- formulas

    public int letter(int letter) {
        if (letter < 0 || letter > 4) {
            throw new IllegalArgumentException();
        }
        return learn("abcde".substring(letter, letter + 1));
    }

    public int falsum() {
        return learn("F");
    }

    public int negation(int formula) {
        return learn("N" + formula(formula));
    }

    public int conjunction(int left, int right) {
        return learn("K" + formula(left) + formula(right));
    }

    public int disjunction(int left, int right) {
        return learn("A" + formula(left) + formula(right));
    }

    public int implication(int left, int right) {
        return learn("C" + formula(left) + formula(right));
    }

    public int formulas() {
        return known.size();
    }

    public int sizeOf(int formula) {
        return formula(formula).length();
    }

    public char symbolAt(int formula, int index) {
        String text = formula(formula);
        if (index < 0 || index >= text.length()) {
            throw new NoSuchElementException();
        }
        return text.charAt(index);
    }

    public int bind(int letter, int formula) {
        if (letter < 0 || letter > 4) {
            throw new IllegalArgumentException();
        }
        String text = formula(formula);
        String before = bindings.put("abcde".charAt(letter), text);
        return before == null ? -1 : known.indexOf(before);
    }

    // ---- the proof

    public int premise(int formula) {
        String text = formula(formula);
        fit(current == null);
        return write(text, 'P');
    }

    public int assume(int formula) {
        String text = formula(formula);
        room();
        current = new Box(current);
        opened.add(current);
        return write(text, 'H');
    }

    public int closeBox() {
        if (current == null) {
            throw new IllegalStateException();
        }
        int number = opened.indexOf(current);
        current.isOpen = false;
        current = current.outer;
        return number;
    }

    public int repeat(int line) {
        Line first = line(line);
        cite(first.canBeCited());
        return write(first.formula, 'R', first);
    }

    public int makeConjunction(int line, int other) {
        Line first = line(line);
        Line second = line(other);
        cite(first.canBeCited() && second.canBeCited());
        return write("K" + first.formula + second.formula, 'k', first, second);
    }

    public int useConjunction(int line, boolean isRight) {
        Line first = line(line);
        cite(first.canBeCited());
        fit(first.formula.charAt(0) == 'K');
        return write(isRight ? right(first.formula) : left(first.formula), isRight ? 'r' : 'l', first);
    }

    public int makeDisjunction(int line, int formula, boolean isRight) {
        Line first = line(line);
        String text = formula(formula);
        cite(first.canBeCited());
        return isRight ? write("A" + text + first.formula, 'b', first) : write("A" + first.formula + text, 'a', first);
    }

    public int useDisjunction(int line, int box, int other) {
        Line first = line(line);
        Box one = box(box);
        Box two = box(other);
        cite(first.canBeCited() && one.canBeCited() && two.canBeCited());
        fit(first.formula.equals("A" + one.begin() + two.begin()));
        fit(one.last().formula.equals(two.last().formula));
        return write(one.last().formula, 'v', first, one.direct.get(0), one.last(), two.direct.get(0), two.last());
    }

    public int makeImplication(int box) {
        Box one = box(box);
        cite(one.canBeCited());
        return write("C" + one.begin() + one.last().formula, 'c', one.direct.get(0), one.last());
    }

    public int useImplication(int line, int other) {
        Line first = line(line);
        Line second = line(other);
        cite(first.canBeCited() && second.canBeCited());
        fit(first.formula.charAt(0) == 'C' && left(first.formula).equals(second.formula));
        return write(right(first.formula), 'm', first, second);
    }

    public int makeNegation(int box) {
        Box one = box(box);
        cite(one.canBeCited());
        fit(one.last().formula.equals("F"));
        return write("N" + one.begin(), 'i', one.direct.get(0), one.last());
    }

    public int useNegation(int line, int other) {
        Line first = line(line);
        Line second = line(other);
        cite(first.canBeCited() && second.canBeCited());
        fit(first.formula.equals("N" + second.formula));
        return write("F", 'n', first, second);
    }

    public int fromFalsum(int line, int formula) {
        Line first = line(line);
        String text = formula(formula);
        cite(first.canBeCited());
        fit(first.formula.equals("F"));
        return write(text, 'x', first);
    }

    public int doubleNegation(int line) {
        Line first = line(line);
        cite(first.canBeCited());
        fit(first.formula.startsWith("NN"));
        return write(first.formula.substring(2), 'd', first);
    }

    public int newProof() {
        int before = proof.size();
        proof = new ArrayList<>();
        opened = new ArrayList<>();
        current = null;
        return before;
    }

    // ---- lemmas

    public int keepLemma() {
        if (proof.isEmpty()) {
            throw new NoSuchElementException();
        }
        Line last = proof.get(proof.size() - 1);
        List<String> premises = new ArrayList<>();
        for (Line line : proof) {
            if (line.rule == 'P') {
                premises.add(line.formula);
            }
        }
        fit(last.box == null && premises.size() <= 2);
        if (kept.size() == 8) {
            throw new IllegalStateException();
        }
        kept.add(new Lemma(premises, last.formula));
        return kept.size() - 1;
    }

    /** Reads a pattern and a text side by side; returns the index in the text behind the pattern, or -1. */
    private static int match(String pattern, String text, Map<Character, String> replaced) {
        int at = 0;
        for (char symbol : pattern.toCharArray()) {
            if (at >= text.length()) {
                return -1;
            }
            if (symbol >= 'a' && symbol <= 'e') {
                String part = text.substring(at, end(text, at));
                String before = replaced.putIfAbsent(symbol, part);
                if (before != null && !before.equals(part)) {
                    return -1;
                }
                at += part.length();
            } else if (text.charAt(at) == symbol) {
                at++;
            } else {
                return -1;
            }
        }
        return at;
    }

    public int useLemma(int lemma, int line, int other) {
        Lemma used = lemma(lemma);
        List<Line> looked = new ArrayList<>();
        if (used.premises.size() > 0) {
            looked.add(line(line));
        }
        if (used.premises.size() > 1) {
            looked.add(line(other));
        }
        for (Line each : looked) {
            cite(each.canBeCited());
        }
        Map<Character, String> replaced = new HashMap<>();
        for (int i = 0; i < looked.size(); i++) {
            fit(match(used.premises.get(i), looked.get(i).formula, replaced) >= 0);
        }
        StringBuilder text = new StringBuilder();
        for (char symbol : used.conclusion.toCharArray()) {
            String self = String.valueOf(symbol);
            text.append(replaced.getOrDefault(symbol, bindings.getOrDefault(symbol, self)));
        }
        return write(text.toString(), 'L', looked.toArray(new Line[0]));
    }

    public int lemmas() {
        return kept.size();
    }

    public int conclusionOf(int lemma) {
        return known.indexOf(lemma(lemma).conclusion);
    }

    // ---- questions about the proof

    public int lines() {
        return proof.size();
    }

    public int formulaOf(int line) {
        return known.indexOf(line(line).formula);
    }

    public char ruleOf(int line) {
        return line(line).rule;
    }

    public int depthOf(int line) {
        int depth = 0;
        for (Box box = line(line).box; box != null; box = box.outer) {
            depth++;
        }
        return depth;
    }

    public boolean canCite(int line) {
        return line(line).canBeCited();
    }

    public int boxes() {
        return opened.size();
    }

    public boolean canCiteBox(int box) {
        return box(box).canBeCited();
    }

    public int resultOf(int box) {
        return known.indexOf(box(box).last().formula);
    }

    private static void need(Line line, Set<Line> lines) {
        if (lines.add(line)) {
            for (Line each : line.cited) {
                need(each, lines);
            }
        }
    }

    public int needed() {
        if (proof.isEmpty()) {
            throw new NoSuchElementException();
        }
        Set<Line> lines = new LinkedHashSet<>();
        need(proof.get(proof.size() - 1), lines);
        return lines.size();
    }

    // ---- gaps and normal forms

    private long best(String target, Map<String, Long> distances, Set<String> view) {
        long best = 1 + distances.get("F");
        char symbol = target.charAt(0);
        if (symbol == 'K') {
            best = Math.min(best, 1 + distances.get(left(target)) + distances.get(right(target)));
        }
        if (symbol == 'A') {
            best = Math.min(best, 1 + Math.min(distances.get(left(target)), distances.get(right(target))));
        }
        for (String source : view) {
            char kind = source.charAt(0);
            long own = distances.get(source);
            if (kind == 'K' && (left(source).equals(target) || right(source).equals(target))) {
                best = Math.min(best, 1 + own);
            }
            if (kind == 'C' && right(source).equals(target)) {
                best = Math.min(best, 1 + own + distances.get(left(source)));
            }
            if (kind == 'N' && target.equals("F")) {
                best = Math.min(best, 1 + own + distances.get(left(source)));
            }
            if (source.equals("NN" + target)) {
                best = Math.min(best, 1 + own);
            }
        }
        return best;
    }

    public int distance(int formula) {
        String goal = formula(formula);
        Set<String> view = new LinkedHashSet<>();
        Set<String> entered = new LinkedHashSet<>();
        view.add("F");
        collect(goal, view);
        for (Line line : proof) {
            if (line.canBeCited()) {
                collect(line.formula, view);
                entered.add(line.formula);
            }
        }
        long none = 1_000_000;
        Map<String, Long> distances = new HashMap<>();
        for (String each : view) {
            distances.put(each, entered.contains(each) ? 0 : none);
        }
        boolean isChanged = true;
        while (isChanged) {
            isChanged = false;
            for (String each : view) {
                long best = best(each, distances, view);
                if (best <= 9999 && best < distances.get(each)) {
                    distances.put(each, best);
                    isChanged = true;
                }
            }
        }
        if (distances.get(goal) == none) {
            throw new NoSuchElementException();
        }
        return (int) (long) distances.get(goal);
    }

    public int distanceByRounds(int formula) {
        return distance(formula);
    }

    /** Returns the text behind one step, or null. */
    private static String stepped(String text) {
        char symbol = text.charAt(0);
        if (symbol == 'C') {
            return "AN" + left(text) + right(text);
        }
        if (symbol == 'N') {
            String inner = left(text);
            char second = inner.charAt(0);
            if (second == 'N') {
                return left(inner);
            }
            if (second == 'K' || second == 'A') {
                return (second == 'K' ? "A" : "K") + "N" + left(inner) + "N" + right(inner);
            }
            String below = stepped(inner);
            return below == null ? null : "N" + below;
        }
        if (!isBinary(symbol)) {
            return null;
        }
        String below = stepped(left(text));
        if (below != null) {
            return symbol + below + right(text);
        }
        below = stepped(right(text));
        return below == null ? null : symbol + left(text) + below;
    }

    public int normalStep(int formula) {
        String next = stepped(formula(formula));
        if (next == null) {
            throw new NoSuchElementException();
        }
        return learn(next);
    }

    public int normalSteps(int formula) {
        int steps = 0;
        for (String next = stepped(formula(formula)); next != null; next = stepped(next)) {
            steps++;
        }
        return steps;
    }

    private static String normal(String text, boolean isNegated) {
        char symbol = text.charAt(0);
        if (symbol == 'N') {
            return normal(left(text), !isNegated);
        }
        if (!isBinary(symbol)) {
            return isNegated ? "N" + text : text;
        }
        String name = (symbol == 'K') == isNegated ? "A" : "K";
        boolean isLeftNegated = symbol == 'C' ? !isNegated : isNegated;
        return name + normal(left(text), isLeftNegated) + normal(right(text), isNegated);
    }

    public int normalForm(int formula) {
        return learn(normal(formula(formula), false));
    }

    // ---- truth

    private static boolean holds(String text, int valuation) {
        char symbol = text.charAt(0);
        return switch (symbol) {
            case 'F' -> false;
            case 'N' -> !holds(left(text), valuation);
            case 'K' -> holds(left(text), valuation) && holds(right(text), valuation);
            case 'A' -> holds(left(text), valuation) || holds(right(text), valuation);
            case 'C' -> !holds(left(text), valuation) || holds(right(text), valuation);
            default -> (valuation & 1 << symbol - 'a') != 0;
        };
    }

    private static boolean follows(String text, List<String> others) {
        for (int valuation = 0; valuation < 32; valuation++) {
            boolean isEach = true;
            for (String other : others) {
                isEach = isEach && holds(other, valuation);
            }
            if (isEach && !holds(text, valuation)) {
                return false;
            }
        }
        return true;
    }

    public int models(int formula) {
        String text = formula(formula);
        int models = 0;
        for (int valuation = 0; valuation < 32; valuation++) {
            models += holds(text, valuation) ? 1 : 0;
        }
        return models;
    }

    public int modelsByRows(int formula) {
        return models(formula);
    }

    public boolean follows(int formula) {
        String text = formula(formula);
        List<String> others = new ArrayList<>();
        for (Line line : proof) {
            if (line.canBeCited()) {
                others.add(line.formula);
            }
        }
        return follows(text, others);
    }

    public boolean isSound(int line) {
        Line asked = line(line);
        List<String> others = new ArrayList<>();
        for (Line each : proof) {
            if (each.rule == 'P') {
                others.add(each.formula);
            }
        }
        for (Box box = asked.box; box != null; box = box.outer) {
            others.add(box.begin());
        }
        return follows(asked.formula, others);
    }

    public float share(int formula) {
        return (float) models(formula) / 32f;
    }

    public double meanSize() {
        if (proof.isEmpty()) {
            throw new ArithmeticException();
        }
        int sum = 0;
        for (Line line : proof) {
            sum += line.formula.length();
        }
        return (double) sum / (double) proof.size();
    }
}
