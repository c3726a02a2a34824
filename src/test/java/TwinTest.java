import java.lang.reflect.InvocationTargetException;
import java.lang.reflect.Method;
import java.util.HashMap;
import java.util.Map;

/** Long runs of chosen calls, each of which the desk and its twin have to answer alike. */
public final class TwinTest {
    private static final int CALLS = 512;
    private static final int[] ODD_NUMBERS = {-1, -2, 5, 8, 60, 150, Integer.MIN_VALUE, Integer.MAX_VALUE, 1 << 27};
    // What the letters say: f formula, l line, b box, t letter, i index, z boolean, m lemma.
    private static final String[][] CALLS_KNOWN = {
        {"letter", "t"}, {"falsum", ""}, {"negation", "f"}, {"conjunction", "ff"}, {"disjunction", "ff"},
        {"implication", "ff"}, {"formulas", ""}, {"sizeOf", "f"}, {"symbolAt", "fi"}, {"bind", "tf"},
        {"premise", "f"}, {"assume", "f"}, {"closeBox", ""}, {"repeat", "l"}, {"makeConjunction", "ll"},
        {"useConjunction", "lz"}, {"makeDisjunction", "lfz"}, {"useDisjunction", "lbb"}, {"makeImplication", "b"},
        {"useImplication", "ll"}, {"makeNegation", "b"}, {"useNegation", "ll"}, {"fromFalsum", "lf"},
        {"doubleNegation", "l"}, {"newProof", ""}, {"keepLemma", ""}, {"useLemma", "mll"}, {"lemmas", ""},
        {"conclusionOf", "m"}, {"lines", ""}, {"formulaOf", "l"}, {"ruleOf", "l"}, {"depthOf", "l"},
        {"canCite", "l"}, {"boxes", ""}, {"canCiteBox", "b"}, {"resultOf", "b"}, {"needed", ""},
        {"distance", "f"}, {"distanceByRounds", "f"}, {"normalStep", "f"}, {"normalSteps", "f"},
        {"normalForm", "f"}, {"models", "f"}, {"modelsByRows", "f"}, {"follows", "f"}, {"isSound", "l"},
        {"share", "f"}, {"meanSize", ""}};
    private static final String[] MAKING = {"letter", "falsum", "negation", "conjunction", "disjunction",
        "implication", "normalStep", "normalForm"};
    private static final String[] PROVING = {"premise", "assume", "closeBox", "repeat", "makeConjunction",
        "useConjunction", "makeDisjunction", "useDisjunction", "makeImplication", "useImplication",
        "makeNegation", "useNegation", "fromFalsum", "doubleNegation"};
    private static final String[] KEEPING = {"keepLemma", "useLemma", "useLemma", "bind", "newProof"};

    private final Map<String, Method> desks = new HashMap<>();
    private final Map<String, Method> twins = new HashMap<>();
    private final Map<String, String> kinds = new HashMap<>();
    private final Map<String, Integer> answered = new HashMap<>();
    private final Check check = new Check("TwinTest");
    private long seed;
    private DeductionDesk desk;
    private Twin twin;
    private int run;
    private int calls;
    private boolean isSame;

    public static void main(String[] args) {
        new TwinTest().testAll(args.length > 0 ? Integer.parseInt(args[0]) : 240);
    }

    private void testAll(int runs) {
        for (Method each : DeductionDesk.class.getDeclaredMethods()) {
            desks.put(each.getName(), each);
        }
        for (Method each : Twin.class.getDeclaredMethods()) {
            if (java.lang.reflect.Modifier.isPublic(each.getModifiers())) {
                twins.put(each.getName(), each);
            }
        }
        for (String[] each : CALLS_KNOWN) {
            kinds.put(each[0], each[1]);
        }
        for (run = 1; run <= runs; run++) {
            testRun();
        }
        for (String[] each : CALLS_KNOWN) {
            check.same(each[0] + " has been answered", answered.getOrDefault(each[0], 0) > 0, true);
        }
        check.end();
    }

    private void testRun() {
        seed = run * 7919L;
        desk = new DeductionDesk();
        twin = new Twin();
        calls = 0;
        isSame = true;
        int profile = run % 4;
        for (int i = 0; i < 5 && profile != 1; i++) {
            send("letter", i);
        }
        while (calls < CALLS - 40 && isSame) {
            int lot = pick(100);
            if (lot < (profile == 1 ? 60 : 12)) {
                sendChosen(MAKING[pick(MAKING.length)]);
            } else if (lot < 70) {
                sendChosen(PROVING[pick(PROVING.length)]);
            } else if (lot < (profile == 3 ? 85 : 73)) {
                String name = KEEPING[pick(KEEPING.length)];
                if (profile != 2 || !name.equals("newProof")) {
                    sendChosen(name);
                }
            } else if (lot < 75) {
                sendShortProof();
            } else {
                sendChosen(CALLS_KNOWN[pick(CALLS_KNOWN.length)][0]);
            }
        }
        check.same("run " + run + " is answered alike", isSame, true);
    }

    /** Sends a call with chosen numbers; most of those that the twin refuses are not sent to the desk. */
    private void sendChosen(String name) {
        String kind = kinds.get(name);
        boolean isRefusalWanted = pick(8) == 0;
        for (int trial = 0; trial < 60; trial++) {
            Object[] arguments = new Object[kind.length()];
            for (int i = 0; i < arguments.length; i++) {
                arguments[i] = choose(kind.charAt(i));
            }
            String due = answer(twins.get(name), twin, arguments);
            if (!due.startsWith("throws") || isRefusalWanted) {
                compare(name, due, arguments);
                return;
            }
        }
    }

    private Object choose(char kind) {
        if (kind == 'z') {
            return pick(2) == 0;
        }
        if (pick(40) == 0) {
            return ODD_NUMBERS[pick(ODD_NUMBERS.length)];
        }
        int count = switch (kind) {
            case 'f' -> twin.formulas();
            case 'l' -> twin.lines();
            case 'b' -> twin.boxes();
            case 't' -> 5;
            case 'i' -> 31;
            default -> twin.lemmas();
        };
        if (count == 0) {
            return 0;
        }
        return count > 6 && pick(2) == 0 ? count - 1 - pick(6) : pick(count);
    }

    /** Sends the calls of a short proof, with chosen formulas. */
    private void sendShortProof() {
        if (twin.formulas() > 0 && twin.lines() <= 50) {
            int left = pick(twin.formulas());
            int right = pick(twin.formulas());
            switch (pick(4)) {
                case 0 -> sendCases(left, right);
                case 1 -> sendRefutation(left);
                case 2 -> sendGaps();
                default -> sendLemma(left, right);
            }
        }
    }

    /** Proves a disjunction with its formulas exchanged. */
    private void sendCases(int left, int right) {
        assumeMade("disjunction", left, right);
        int cases = twin.lines() - 1;
        send("assume", left);
        send("makeDisjunction", twin.lines() - 1, right, true);
        send("closeBox");
        send("assume", right);
        send("makeDisjunction", twin.lines() - 1, left, false);
        send("closeBox");
        send("useDisjunction", cases, twin.boxes() - 2, twin.boxes() - 1);
        send("needed");
        send("closeBox");
    }

    /** Proves a formula's double negation, and the formula from it. */
    private void sendRefutation(int formula) {
        send("assume", formula);
        assumeMade("negation", formula);
        send("useNegation", twin.lines() - 1, twin.lines() - 2);
        if (pick(2) == 0) {
            send("fromFalsum", twin.lines() - 1, pick(twin.formulas()));
            send("repeat", twin.lines() - 2);
        }
        send("closeBox");
        send("makeNegation", twin.boxes() - 1);
        send("doubleNegation", twin.lines() - 1);
        send("needed");
        send("closeBox");
    }

    /** Keeps a lemma of two premises, if there is room, and uses it. */
    private void sendLemma(int left, int right) {
        send("newProof");
        premiseMade("implication", pick(5), pick(5));
        premiseMade(pick(2) == 0 ? "negation" : "letter", pick(5));
        send("useImplication", 0, 1);
        premiseMade("conjunction", left, right);
        send("keepLemma");
        send("newProof");
        premiseMade("implication", left, right);
        premiseMade(pick(2) == 0 ? "negation" : "letter", left);
        send("useImplication", 0, 1);
        send("assume", left);
        send("premise", left);
        send("repeat", 2);
        send("makeDisjunction", 3, pick(twin.formulas()), true);
        send("closeBox");
        send("repeat", pick(2));
        send("keepLemma");
        for (int lemma = 0; lemma < twin.lemmas(); lemma++) {
            send("useLemma", lemma, pick(4), pick(4));
        }
        sendChosen("useLemma");
    }

    /** Asks for distances where there are many ways, of which the shorter ones are found late. */
    private void sendGaps() {
        if (twin.formulas() > 120) {
            return;
        }
        send("newProof");
        send("premise", pick(twin.formulas()));
        int[] links = new int[6];
        for (int i = 0; i < links.length; i++) {
            links[i] = pick(twin.formulas());
        }
        for (int i = 0; i < 9; i++) {
            int left = i == 0 ? twin.formulaOf(0) : links[pick(links.length)];
            String pair = send(pick(2) == 0 ? "conjunction" : "disjunction", left, links[pick(links.length)]);
            boolean isPair = pick(2) == 0 && !pair.startsWith("throws");
            premiseMade("implication", isPair ? Integer.parseInt(pair) : left, links[pick(links.length)]);
        }
        for (int link : links) {
            send("distance", link);
            send("distanceByRounds", link);
        }
    }

    private void premiseMade(String name, Object... arguments) {
        String number = send(name, arguments);
        if (!number.startsWith("throws")) {
            send("premise", Integer.parseInt(number));
        }
    }

    private void assumeMade(String name, Object... arguments) {
        String number = send(name, arguments);
        if (!number.startsWith("throws")) {
            send("assume", Integer.parseInt(number));
        }
    }

    private String send(String name, Object... arguments) {
        String due = answer(twins.get(name), twin, arguments);
        compare(name, due, arguments);
        return due;
    }

    private void compare(String name, String due, Object[] arguments) {
        String got = answer(desks.get(name), desk, arguments);
        calls++;
        if (!due.startsWith("throws")) {
            answered.merge(name, 1, Integer::sum);
        }
        if (!got.equals(due)) {
            isSame = false;
            System.out.println("run " + run + ", call " + calls + ": " + name + java.util.Arrays.toString(arguments)
                    + " answered " + got + ", due is " + due);
        }
    }

    private static String answer(Method method, Object object, Object[] arguments) {
        try {
            return String.valueOf(method.invoke(object, arguments));
        } catch (InvocationTargetException e) {
            return "throws " + e.getCause().getClass().getName();
        } catch (IllegalAccessException e) {
            throw new IllegalStateException(e);
        }
    }

    private int pick(int bound) {
        seed = seed * 6364136223846793005L + 1442695040888963407L;
        return (int) ((seed >>> 33) % bound);
    }
}
