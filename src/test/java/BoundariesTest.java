import java.util.List;
import java.util.function.ToIntFunction;

/**
 * The sentences of the document that name a boundary, one after the other, each with a test of its
 * own. The sentence stands in front of every answer that is not as due.
 */
public final class BoundariesTest {
    private static final int NONE = FsmReducer.NONE;
    private static final int MIN = Integer.MIN_VALUE;
    private static final int MAX = Integer.MAX_VALUE;

    /** None is a state, an input, an entry, a set or a place; some would be if high bits were lost. */
    private static final int[] FAR = {MIN, MIN + 1, MIN + 3, -65535, -255, -32, -31, -16, -3, -2, 32, 33,
        64, 256, 257, 259, 65536, 65537, 1 << 30, (1 << 30) + 1, MAX - 1, MAX};

    /** So many inputs 0 lead the walk out of its last state. */
    private static final int STEPS_TO_LOST = 3;

    private static int wrong = 0;
    private static String sentence = "";

    public static void main(String[] args) {
        terms();
        machine();
        splits();
        setsOfStates();
        covers();
        run();
        System.out.println(wrong == 0 ? "all boundaries hold" : wrong + " answers are not as due");
        if (wrong != 0) {
            System.exit(1);
        }
    }

    private static void terms() {
        setsUpToTheLastCall();
        readsUpToTheLastCall();
        questionsUpToTheLastCall();
        allOpenAtFirst();
        nextStateAndOutputApart();
        wordsFromLengthOneOn();
        nextStatesOnTheWay();
        outputsOnTheWay();
        nextStatesOfTheLast();
        outputsOfTheLast();
        compatibleWithItself();
        anyTwoMembers();
        noProperPart();
        questionsChangeNothing();
        refusedCallsChangeNothing();
        testsInTheirOrder();
    }

    private static void machine() {
        statesBecome();
        statesStay();
        setAtItsBounds();
        setFarAway();
        setAnswersTheEntryBefore();
        runAfterSet();
        entryAtItsBounds();
    }

    private static void splits() {
        twoStatesAtTheirBounds();
        twoStatesFarAway();
        splitAndCompatibleAgain();
        longestWords();
        shortestBeforeLeast();
        leastOfTheShortest();
        firstDigitFirst();
    }

    private static void setsOfStates() {
        compatibleSetAtItsBounds();
        fewestAndMostMaximals();
        maximalAtItsBounds();
        impliedAtItsBounds();
        impliedEmpty();
        impliedOfAnySet();
    }

    private static void covers() {
        coverOfOneSet();
        coverOfAsManySetsAsStates();
        coverOfEverySize();
        coverShrinksAndGrows();
        fewestSets();
        firstSetsCompared();
        secondSetsCompared();
        thirdSetsCompared();
        coverWithoutMaximalSets();
        coverSetAtItsBounds();
        listOfOne();
        listOfTwo();
        listOfThree();
        isCoverAtItsBounds();
        everyStateInOne();
        everySetCompatible();
        nextStatesPartOfOne();
        nextStatesOfEverySet();
        setsWithOneMember();
    }

    private static void run() {
        runAtFirst();
        restartFromAnywhere();
        readAtItsBounds();
        lostStaysLost();
        lostFromNowOn();
        openOutput();
        outputOfTheStateBefore();
        lostOrNot();
    }

    private static void due(String call, int got, int want) {
        if (got != want) {
            wrong++;
            System.out.println(sentence + ": " + call + " answered " + got + ", due is " + want);
        }
    }

    private static String of(int... values) {
        StringBuilder s = new StringBuilder("(");
        for (int i = 0; i < values.length; i++) {
            s.append(i == 0 ? "" : ", ").append(values[i]);
        }
        return s.append(")").toString();
    }

    private static int e(int next, int output) {
        return 3 * (next + 1) + (output + 1);
    }

    private static int all(int n) {
        return (1 << n) - 1;
    }

    private static boolean in(int value, int least, int greatest) {
        return value >= least && value <= greatest;
    }

    private static boolean differ(int one, int other) {
        return one != NONE && other != NONE && one != other;
    }

    // ---- Machines

    /** s and t differ at once for input 1; everything else is open. */
    private static FsmReducer oneSplit(int n, int s, int t) {
        FsmReducer x = new FsmReducer(n);
        x.set(s, 1, e(NONE, 0));
        x.set(t, 1, e(NONE, 1));
        return x;
    }

    /** The first k states are all against each other (4 is like 0 but leads to 1), the rest is open. */
    private static FsmReducer firstSplit(int n, int k) {
        FsmReducer x = new FsmReducer(n);
        addSplits(x, 0, k);
        return x;
    }

    private static void addSplits(FsmReducer x, int from, int to) {
        for (int s = from; s < to; s++) {
            x.set(s, 0, e(s == 4 ? 1 : 0, s & 1));
            x.set(s, 1, e(0, s >> 1 & 1));
        }
    }

    private static FsmReducer allSplit(int n) {
        return firstSplit(n, n);
    }

    /** A ring for input 1, so that all states two steps apart are split as 0 and 2 are. */
    private static FsmReducer ring(int n) {
        FsmReducer x = new FsmReducer(n);
        for (int s = 0; s < n; s++) {
            x.set(s, 1, e((s + 1) % n, NONE));
        }
        x.set(0, 0, e(NONE, 0));
        x.set(2, 0, e(NONE, 1));
        return x;
    }

    /** 0 against 1, and 2, 3, 4 against each other: the most maximal sets that five states allow. */
    private static FsmReducer twoAgainstThree() {
        FsmReducer x = new FsmReducer(5);
        x.set(0, 0, e(NONE, 0));
        x.set(1, 0, e(NONE, 1));
        x.set(2, 1, e(NONE, 0));
        x.set(3, 1, e(2, 1));
        x.set(4, 1, e(3, 1));
        return x;
    }

    /** For input 0 from 0 to 1 to 2 to lost, with the outputs 0, 1 and none. */
    private static FsmReducer walkAfter(int steps) {
        FsmReducer x = new FsmReducer(3);
        x.set(0, 0, e(1, 0));
        x.set(1, 0, e(2, 1));
        x.set(2, 1, e(2, 0));
        for (int k = 0; k < steps; k++) {
            x.read(0);
        }
        return x;
    }

    /** What read(0) answers after so many steps of the walk: no two are alike. */
    private static int told(int steps) {
        return new int[] {0, 1, -2, -3}[steps];
    }

    /** From 0 to the last state for input 0, each output 0; what the last state does is given. */
    private static FsmReducer lineTo(int n, int input, int lastEntry) {
        FsmReducer x = new FsmReducer(n);
        for (int s = 0; s < n - 1; s++) {
            x.set(s, 0, e(s + 1, 0));
        }
        x.set(n - 1, input, lastEntry);
        for (int s = 0; s < n - 1; s++) {
            due("read(0) in state " + s, x.read(0), 0);
        }
        return x;
    }

    // ---- What it is, and the terms

    private static void setsUpToTheLastCall() {
        sentence = "\"An object is used for at most 512 calls\", sets";
        FsmReducer x = new FsmReducer(5);
        for (int k = 0; k < 512; k++) {
            due("set, call " + (k + 1), x.set(4, 1, k % 18), k == 0 ? 0 : (k - 1) % 18);
        }
    }

    private static void readsUpToTheLastCall() {
        sentence = "\"An object is used for at most 512 calls\", reads";
        FsmReducer x = new FsmReducer(2);
        x.set(0, 0, e(1, 0));
        x.set(1, 0, e(0, 1));
        for (int k = 2; k < 512; k++) {
            due("read, call " + (k + 1), x.read(0), k % 2);
        }
    }

    private static void questionsUpToTheLastCall() {
        sentence = "\"An object is used for at most 512 calls\", questions";
        FsmReducer x = oneSplit(5, 0, 4);
        for (int k = 2; k < 512; k += 3) {
            due("isCover, call " + (k + 1), x.isCover(1, 30, 0), 1);
            due("coverSet, call " + (k + 2), x.coverSet(1), 30);
            due("maximal, call " + (k + 3), x.maximal(0), 15);
        }
    }

    private static void allOpenAtFirst() {
        sentence = "\"all are NONE at first\"";
        for (int n = 2; n <= 5; n++) {
            FsmReducer x = new FsmReducer(n);
            for (int s = 0; s < n; s++) {
                for (int input = 0; input < 2; input++) {
                    due("entry" + of(s, input), x.entry(s, input), 0);
                    due("implied" + of(1 << s, input), x.implied(1 << s, input), 0);
                }
            }
            due("read(1)", x.read(1), -2);
        }
    }

    private static void nextStateAndOutputApart() {
        sentence = "\"a next state (0 .. n-1, or NONE) and an output (0, 1, or NONE), independently of each other\"";
        for (int n = 2; n <= 5; n++) {
            FsmReducer x = new FsmReducer(n);
            for (int next = NONE; next < n; next++) {
                for (int output = NONE; output <= 1; output++) {
                    x.set(0, 0, e(next, output));
                    due("implied(1, 0) with " + of(next, output), x.implied(1, 0), next == NONE ? 0 : 1 << next);
                    due("read(0) with " + of(next, output), x.read(0), output == NONE ? -2 : output);
                    due("lost() with " + of(next, output), x.lost(), next == NONE ? 1 : 0);
                }
            }
        }
    }

    private static void wordsFromLengthOneOn() {
        sentence = "\"A WORD is a sequence of inputs of length 1 or more\"";
        for (int n = 2; n <= 5; n++) {
            FsmReducer x = oneSplit(n, 0, n - 1);
            due("splitLength" + of(0, n - 1), x.splitLength(0, n - 1), 1);
            due("splitWord" + of(0, n - 1), x.splitWord(0, n - 1), 1);
            x.set(0, 0, e(NONE, 1));
            x.set(n - 1, 0, e(NONE, 0));
            due("splitLength" + of(0, n - 1) + ", 0 and 1", x.splitLength(0, n - 1), 1);
            due("splitWord" + of(0, n - 1) + ", 0 and 1", x.splitWord(0, n - 1), 0);
        }
    }

    /** 4 and 3 lead to 2 and 3 for input 1, these to 0 and 1 for input 0, these differ for input 1. */
    private static void nextStatesOnTheWay() {
        sentence = "\"the next states for all its inputs but the last are not NONE on either side\"";
        FsmReducer x = oneSplit(5, 0, 1);
        int[] s = {4, 3, 2, 3};
        int[] input = {1, 1, 0, 0};
        int[] next = {2, 3, 0, 1};
        for (int k = 0; k < 4; k++) {
            due("splitLength(4, 3) with " + k + " of the ways", x.splitLength(4, 3), -2);
            x.set(s[k], input[k], e(next[k], NONE));
        }
        for (int k = 0; k < 4; k++) {
            due("splitLength(4, 3)", x.splitLength(4, 3), 3);
            due("splitWord(4, 3)", x.splitWord(4, 3), 5);
            x.set(s[k], input[k], 0);
            due("splitLength(4, 3) without way " + k, x.splitLength(4, 3), -2);
            due("compatible(3, 4) without way " + k, x.compatible(3, 4), 1);
            x.set(s[k], input[k], e(next[k], NONE));
        }
    }

    private static void outputsOnTheWay() {
        sentence = "\"the outputs for the last input, in the states reached by then\"";
        FsmReducer x = oneSplit(4, 0, 1);
        for (int one = NONE; one <= 1; one++) {
            for (int other = NONE; other <= 1; other++) {
                x.set(2, 0, e(0, one));
                x.set(3, 0, e(1, other));
                boolean atOnce = differ(one, other);
                due("splitLength(2, 3) by " + of(one, other), x.splitLength(2, 3), atOnce ? 1 : 2);
                due("splitWord(2, 3) by " + of(one, other), x.splitWord(2, 3), atOnce ? 0 : 1);
            }
        }
    }

    private static void nextStatesOfTheLast() {
        sentence = "\"for all its inputs but the last\"";
        FsmReducer x = new FsmReducer(2);
        for (int one = NONE; one < 2; one++) {
            for (int other = NONE; other < 2; other++) {
                x.set(0, 1, e(one, 0));
                x.set(1, 1, e(other, 1));
                due("splitLength(0, 1) to " + of(one, other), x.splitLength(0, 1), 1);
            }
        }
    }

    private static void outputsOfTheLast() {
        sentence = "\"are both not NONE and differ\"";
        for (int n = 2; n <= 5; n++) {
            FsmReducer x = new FsmReducer(n);
            for (int k = 0; k < 18; k++) {
                int input = k % 2;
                int one = k / 2 % 3 - 1;
                int other = k / 6 - 1;
                x.set(0, input, e(NONE, one));
                x.set(n - 1, input, e(NONE, other));
                boolean split = differ(one, other);
                due("compatible of the outputs " + of(one, other), x.compatible(0, n - 1), split ? 0 : 1);
                due("splitWord of the outputs " + of(one, other), x.splitWord(0, n - 1), split ? input : -2);
                x.set(0, input, 0);
            }
        }
    }

    private static void compatibleWithItself() {
        sentence = "\"every state is compatible with itself, and compatibility is symmetric\"";
        for (int n = 2; n <= 5; n++) {
            FsmReducer x = allSplit(n);
            for (int s = 0; s < n; s++) {
                for (int t = 0; t < n; t++) {
                    due("compatible" + of(s, t), x.compatible(s, t), s == t ? 1 : 0);
                    due("splitLength" + of(s, t) + " turned round", x.splitLength(s, t), x.splitLength(t, s));
                    due("splitWord" + of(s, t) + " turned round", x.splitWord(s, t), x.splitWord(t, s));
                }
                due("splitLength" + of(s, s), x.splitLength(s, s), -2);
                due("splitWord" + of(s, s), x.splitWord(s, s), -2);
            }
        }
    }

    private static void anyTwoMembers() {
        sentence = "\"It is compatible if any two of its members are\"";
        for (int n = 2; n <= 5; n++) {
            for (int t = 1; t < n; t++) {
                for (int s = 0; s < t; s++) {
                    int both = 1 << s | 1 << t;
                    FsmReducer x = oneSplit(n, s, t);
                    for (int set = 1; set <= all(n); set++) {
                        boolean split = (set & both) == both;
                        due("compatibleSet" + of(set) + ", split " + of(s, t), x.compatibleSet(set), split ? 0 : 1);
                    }
                }
            }
        }
    }

    private static void noProperPart() {
        sentence = "\"no compatible set has it as a proper part\"";
        for (int n = 2; n <= 5; n++) {
            for (int t = 1; t < n; t++) {
                for (int s = 0; s < t; s++) {
                    FsmReducer x = oneSplit(n, s, t);
                    due("maximals(), split " + of(s, t), x.maximals(), 2);
                    due("maximal(0), split " + of(s, t), x.maximal(0), all(n) - (1 << t));
                    due("maximal(1), split " + of(s, t), x.maximal(1), all(n) - (1 << s));
                }
            }
        }
    }

    private static void questionsChangeNothing() {
        sentence = "\"No question changes anything\"";
        changesNothing(FsmReducer::states);
        changesNothing(x -> x.entry(1, 0));
        changesNothing(x -> x.entry(3, 0));
        changesNothing(x -> x.compatible(0, 1));
        changesNothing(x -> x.compatible(0, 3));
        changesNothing(x -> x.splitLength(0, 1));
        changesNothing(x -> x.splitLength(2, 2));
        changesNothing(x -> x.splitWord(0, 1));
        changesNothing(x -> x.splitWord(-1, 2));
        changesNothing(x -> x.compatibleSet(7));
        changesNothing(x -> x.compatibleSet(8));
        changesNothing(FsmReducer::maximals);
        changesNothing(x -> x.maximal(0));
        changesNothing(x -> x.maximal(3));
        changesNothing(x -> x.implied(7, 0));
        changesNothing(x -> x.implied(7, 2));
        changesNothing(FsmReducer::coverSize);
        changesNothing(x -> x.coverSet(0));
        changesNothing(x -> x.coverSet(3));
        changesNothing(x -> x.isCover(1, 2, 4));
        changesNothing(x -> x.isCover(7, 7, 7));
        changesNothing(x -> x.isCover(0, 0, 0));
        changesNothing(x -> x.isCover(8, 1, 2));
        changesNothing(FsmReducer::lost);
    }

    private static void refusedCallsChangeNothing() {
        sentence = "\"A refused call changes nothing\"";
        changesNothing(x -> x.set(-1, 0, 5));
        changesNothing(x -> x.set(3, 0, 5));
        changesNothing(x -> x.set(0, -1, 5));
        changesNothing(x -> x.set(0, 2, 5));
        changesNothing(x -> x.set(0, 0, -1));
        changesNothing(x -> x.set(0, 0, 12));
        changesNothing(x -> x.read(-1));
        changesNothing(x -> x.read(2));
    }

    private static void changesNothing(ToIntFunction<FsmReducer> call) {
        for (int steps = 0; steps <= STEPS_TO_LOST; steps++) {
            FsmReducer x = walkAfter(steps);
            int answer = call.applyAsInt(x);
            String want = answersOf(walkAfter(steps));
            String got = answersOf(x);
            if (!got.equals(want)) {
                wrong++;
                System.out.println(sentence + ": after an answer " + answer + " stands " + got + ", due is " + want);
            }
            due("read(0) after a call that answered " + answer, x.read(0), told(steps));
        }
    }

    private static String answersOf(FsmReducer x) {
        StringBuilder s = new StringBuilder("states ").append(x.states());
        for (int k = 0; k < 6; k++) {
            s.append(" entry ").append(x.entry(k / 2, k % 2));
        }
        for (int k = 0; k < 9; k++) {
            s.append(" two ").append(x.compatible(k / 3, k % 3)).append(' ').append(x.splitLength(k / 3, k % 3));
            s.append(' ').append(x.splitWord(k / 3, k % 3));
        }
        for (int set = 1; set <= 7; set++) {
            s.append(" set ").append(x.compatibleSet(set)).append(' ').append(x.implied(set, 0));
            s.append(' ').append(x.implied(set, 1)).append(' ').append(x.isCover(set, 7 - set, 0));
        }
        s.append(" maximals ").append(x.maximals()).append(" cover ").append(x.coverSize());
        for (int i = 0; i < 4; i++) {
            s.append(" at ").append(i).append(' ').append(x.maximal(i)).append(' ').append(x.coverSet(i));
        }
        return s.append(" lost ").append(x.lost()).toString();
    }

    private static void testsInTheirOrder() {
        sentence = "\"In every method the tests are made in the order named\"";
        for (int n = 2; n <= 5; n++) {
            FsmReducer x = new FsmReducer(n);
            due("set(n, 2, -1)", x.set(n, 2, -1), -1);
            due("set(-1, -1, 3n + 3)", x.set(-1, -1, 3 * n + 3), -1);
            due("set(n, 2, 0)", x.set(n, 2, 0), -1);
            due("set(n, 0, -1)", x.set(n, 0, -1), -1);
            due("set(0, 2, -1)", x.set(0, 2, -1), -2);
            due("set(0, -1, 3n + 3)", x.set(0, -1, 3 * n + 3), -2);
            due("entry(n, 2)", x.entry(n, 2), -1);
            due("entry(-1, -1)", x.entry(-1, -1), -1);
            due("splitLength(n, n)", x.splitLength(n, n), -1);
            due("splitWord(-1, -1)", x.splitWord(-1, -1), -1);
            due("implied(0, 2)", x.implied(0, 2), -1);
            due("implied(2^n, -1)", x.implied(1 << n, -1), -1);
            x.read(0);
            due("read(2) of a lost run", x.read(2), -1);
            due("read(-1) of a lost run", x.read(-1), -1);
        }
    }

    // ---- Promises 1 to 4

    private static void statesBecome() {
        sentence = "Promise 1: \"below 2 becomes 2, above 5 becomes 5\"";
        int[] given = {MIN, MIN + 3, -65533, -253, -28, -3, -2, -1, 0, 1, 2,
            3, 4, 5, 6, 7, 8, 32, 35, 256, 259, 65539, 1 << 30, MAX - 1, MAX};
        for (int states : given) {
            int n = states <= 2 ? 2 : states == 3 ? 3 : states == 4 ? 4 : 5;
            FsmReducer x = new FsmReducer(states);
            due("states() of " + states, x.states(), n);
            due("entry(n-1, 1) of " + states, x.entry(n - 1, 1), 0);
            due("entry(n, 1) of " + states, x.entry(n, 1), -1);
            due("compatibleSet(2^n - 1) of " + states, x.compatibleSet(all(n)), 1);
            due("compatibleSet(2^n) of " + states, x.compatibleSet(1 << n), -1);
            due("maximal(0) of " + states, x.maximal(0), all(n));
            due("coverSet(0) of " + states, x.coverSet(0), all(n));
            due("set(n-1, 1, greatest) of " + states, x.set(n - 1, 1, 3 * n + 2), 0);
            due("set(n-1, 1, too great) of " + states, x.set(n - 1, 1, 3 * n + 3), -3);
        }
    }

    private static void statesStay() {
        sentence = "Promise 2: \"n\"";
        for (int n = 2; n <= 5; n++) {
            FsmReducer x = new FsmReducer(n);
            due("states()", x.states(), n);
            x.set(n - 1, 1, e(n - 1, 1));
            x.set(n, 0, 0);
            due("states() after sets", x.states(), n);
            x.read(0);
            due("states() of a lost run", x.states(), n);
            x.restart();
            due("states() after a restart", x.states(), n);
        }
    }

    private static void setAtItsBounds() {
        sentence = "Promise 3: \"-1 if s is not in 0 .. n-1; -2 if input is not 0 or 1;"
            + " -3 if entry is not in 0 .. 3 * (n + 1) - 1\"";
        for (int n = 2; n <= 5; n++) {
            FsmReducer x = new FsmReducer(n);
            int top = 3 * (n + 1) - 1;
            for (int s : new int[] {-1, 0, n - 1, n}) {
                for (int input = -1; input <= 2; input++) {
                    boolean place = in(s, 0, n - 1) && in(input, 0, 1);
                    int refusal = in(s, 0, n - 1) ? -2 : -1;
                    due("set" + of(s, input, 0), x.set(s, input, 0), place ? 0 : refusal);
                    due("set" + of(s, input, top), x.set(s, input, top), place ? 0 : refusal);
                    due("set" + of(s, input, -1), x.set(s, input, -1), place ? -3 : refusal);
                    due("set" + of(s, input, top + 1), x.set(s, input, top + 1), place ? -3 : refusal);
                    due("set" + of(s, input, 1), x.set(s, input, 1), place ? top : refusal);
                }
            }
            for (int s = 0; s < n; s++) {
                int want = s == 0 || s == n - 1 ? 1 : 0;
                due("entry" + of(s, 0) + " of " + n, x.entry(s, 0), want);
                due("entry" + of(s, 1) + " of " + n, x.entry(s, 1), want);
            }
        }
    }

    private static void setFarAway() {
        sentence = "Promise 3: \"-1 if s is not in ..; -2 if input is not ..; -3 if entry is not in ..\", far away";
        for (int n = 2; n <= 5; n++) {
            FsmReducer x = new FsmReducer(n);
            for (int far : FAR) {
                due("set" + of(far, 0, 1), x.set(far, 0, 1), -1);
                due("set" + of(0, far, 1), x.set(0, far, 1), -2);
                due("set" + of(n - 1, 1, far), x.set(n - 1, 1, far), -3);
            }
            for (int s = 0; s < n; s++) {
                due("entry" + of(s, 0), x.entry(s, 0), 0);
                due("entry" + of(s, 1), x.entry(s, 1), 0);
            }
        }
    }

    private static void setAnswersTheEntryBefore() {
        sentence = "Promise 3: \"otherwise answers the entry that was there before\"";
        for (int n = 2; n <= 5; n++) {
            FsmReducer x = new FsmReducer(n);
            int top = 3 * (n + 1) - 1;
            for (int entry = 0; entry <= top; entry++) {
                for (int place = 0; place < 2 * n; place++) {
                    int before = x.set(place / 2, place % 2, entry);
                    due("set" + of(place / 2, place % 2, entry), before, entry == 0 ? 0 : entry - 1);
                }
            }
            x.set(0, 0, top + 1);
            x.set(0, 0, -1);
            due("set(0, 0, 0) after refusals", x.set(0, 0, 0), top);
            due("set(0, 0, 0) once more", x.set(0, 0, 0), 0);
            due("set of the same entry", x.set(n - 1, 1, top), top);
        }
    }

    private static void runAfterSet() {
        sentence = "Promise 3: \"The run is in state 0 afterwards\"";
        for (int steps = 0; steps <= STEPS_TO_LOST; steps++) {
            FsmReducer x = walkAfter(steps);
            due("set(2, 1, 0)", x.set(2, 1, 0), e(2, 0));
            due("lost() after " + steps + " steps and a set", x.lost(), 0);
            due("read(0) after " + steps + " steps and a set", x.read(0), told(0));
            FsmReducer y = walkAfter(steps);
            due("set of the same entry", y.set(1, 0, e(2, 1)), e(2, 1));
            due("lost() after " + steps + " steps and the same entry", y.lost(), 0);
            due("read(0) after " + steps + " steps and the same entry", y.read(0), told(0));
        }
    }

    private static void entryAtItsBounds() {
        sentence = "Promise 4: \"-1 if s is not in 0 .. n-1; -2 if input is not 0 or 1\"";
        for (int n = 2; n <= 5; n++) {
            FsmReducer x = new FsmReducer(n);
            for (int place = 0; place < 2 * n; place++) {
                x.set(place / 2, place % 2, place + 1);
            }
            for (int s = -1; s <= n; s++) {
                for (int input = -1; input <= 2; input++) {
                    int want = !in(s, 0, n - 1) ? -1 : !in(input, 0, 1) ? -2 : 2 * s + input + 1;
                    due("entry" + of(s, input), x.entry(s, input), want);
                }
            }
            for (int far : FAR) {
                due("entry" + of(far, 0), x.entry(far, 0), -1);
                due("entry" + of(n - 1, far), x.entry(n - 1, far), -2);
            }
        }
    }

    // ---- Promises 5 to 7

    private static void twoStatesAtTheirBounds() {
        sentence = "Promises 5 to 7: \"-1 if s or t is not in 0 .. n-1\"";
        for (int n = 2; n <= 5; n++) {
            FsmReducer open = new FsmReducer(n);
            FsmReducer split = allSplit(n);
            for (int s = -1; s <= n; s++) {
                for (int t = -1; t <= n; t++) {
                    boolean inside = in(s, 0, n - 1) && in(t, 0, n - 1);
                    due("compatible" + of(s, t) + ", open", open.compatible(s, t), inside ? 1 : -1);
                    due("splitLength" + of(s, t) + ", open", open.splitLength(s, t), inside ? -2 : -1);
                    due("splitWord" + of(s, t) + ", open", open.splitWord(s, t), inside ? -2 : -1);
                    due("compatible" + of(s, t), split.compatible(s, t), !inside ? -1 : s == t ? 1 : 0);
                    if (!inside) {
                        due("splitLength" + of(s, t), split.splitLength(s, t), -1);
                        due("splitWord" + of(s, t), split.splitWord(s, t), -1);
                    }
                }
            }
        }
    }

    private static void twoStatesFarAway() {
        sentence = "Promises 5 to 7: \"-1 if s or t is not in 0 .. n-1\", far away";
        for (int n = 2; n <= 5; n++) {
            FsmReducer x = allSplit(n);
            for (int far : FAR) {
                due("compatible" + of(far, 0), x.compatible(far, 0), -1);
                due("compatible" + of(n - 1, far), x.compatible(n - 1, far), -1);
                due("splitLength" + of(far, 1), x.splitLength(far, 1), -1);
                due("splitLength" + of(0, far), x.splitLength(0, far), -1);
                due("splitWord" + of(far, n - 1), x.splitWord(far, n - 1), -1);
                due("splitWord" + of(1, far), x.splitWord(1, far), -1);
                due("compatible" + of(far, far), x.compatible(far, far), -1);
            }
        }
    }

    private static void splitAndCompatibleAgain() {
        sentence = "Promises 6 and 7: \"-2 if they are compatible\"";
        for (int n = 2; n <= 5; n++) {
            FsmReducer x = new FsmReducer(n);
            for (int round = 0; round < 3; round++) {
                due("splitLength of open states", x.splitLength(n - 1, 0), -2);
                due("splitWord of open states", x.splitWord(n - 1, 0), -2);
                x.set(0, 1, e(NONE, 1));
                due("splitLength of one open state", x.splitLength(n - 1, 0), -2);
                due("splitWord of one open state", x.splitWord(n - 1, 0), -2);
                x.set(n - 1, 1, e(NONE, 0));
                due("splitLength of split states", x.splitLength(n - 1, 0), 1);
                due("splitWord of split states", x.splitWord(n - 1, 0), 1);
                x.set(n - 1, 1, 0);
                x.set(0, 1, 0);
            }
        }
    }

    /**
     * In each of these machines every two states have a word of another length, so that the longest
     * has as many inputs as there are twos of states. A search of all next states showed that
     * no word of that length is greater, or less, than the one here.
     */
    private static void longestWords() {
        sentence = "Promises 6 and 7: the longest shortest word that n states allow";
        wordsOfAllLengths(new int[] {NONE, NONE, NONE, NONE}, 1, "01", "1");
        wordsOfAllLengths(new int[] {NONE, NONE, NONE, NONE}, 0, "01", "0");
        wordsOfAllLengths(new int[] {1, 2, 2, 0, 1, 1}, 1, "01 12 02", "111");
        wordsOfAllLengths(new int[] {2, NONE, 0, 1, 1, 1}, 0, "01 12 02", "000");
        wordsOfAllLengths(new int[] {3, 3, NONE, 2, 2, 0, NONE, 1}, 1, "01 23 02 12 13 03", "111011");
        wordsOfAllLengths(new int[] {3, 3, 2, 0, 0, 2, 1, 3}, 0, "01 23 02 12 13 03", "000100");
        wordsOfAllLengths(new int[] {NONE, 4, 4, 3, NONE, 0, 3, 2, 1, 1}, 1,
            "01 24 03 12 34 13 14 04 02 23", "1111011111");
        wordsOfAllLengths(new int[] {1, 2, 0, NONE, 3, 0, 4, 3, 2, 1}, 0,
            "01 24 34 23 03 12 04 13 02 14", "0000010010");
    }

    /** The twos stand in the order of their lengths; each one's word is the end of the longest. */
    private static void wordsOfAllLengths(int[] nexts, int lastInput, String twos, String longest) {
        int n = nexts.length / 2;
        FsmReducer x = new FsmReducer(n);
        for (int k = 0; k < nexts.length; k++) {
            boolean differs = k / 2 <= 1 && k % 2 == lastInput;
            x.set(k / 2, k % 2, e(nexts[k], differs ? k / 2 : NONE));
        }
        for (int length = 1; length <= longest.length(); length++) {
            int s = twos.charAt(3 * length - 3) - '0';
            int t = twos.charAt(3 * length - 2) - '0';
            int word = Integer.parseInt(longest.substring(longest.length() - length), 2);
            due("splitLength" + of(s, t) + " of " + n, x.splitLength(s, t), length);
            due("splitLength" + of(t, s) + " of " + n, x.splitLength(t, s), length);
            due("splitWord" + of(s, t) + " of " + n, x.splitWord(s, t), word);
            due("splitWord" + of(t, s) + " of " + n, x.splitWord(t, s), word);
        }
    }

    private static void shortestBeforeLeast() {
        sentence = "Promise 7: \"The shortest word that splits s and t\"";
        FsmReducer x = new FsmReducer(4);
        x.set(0, 0, e(NONE, 0));
        x.set(1, 0, e(NONE, 1));
        x.set(2, 0, e(0, NONE));
        x.set(3, 0, e(1, NONE));
        due("splitWord(2, 3) of 00", x.splitWord(2, 3), 0);
        due("splitLength(2, 3) of 00", x.splitLength(2, 3), 2);
        x.set(2, 1, e(NONE, 1));
        x.set(3, 1, e(NONE, 0));
        due("splitWord(2, 3) of 1 and 00", x.splitWord(2, 3), 1);
        due("splitLength(2, 3) of 1 and 00", x.splitLength(2, 3), 1);
    }

    private static void leastOfTheShortest() {
        sentence = "Promise 7: \"among several of that length the one that is least as a number in base 2\"";
        FsmReducer x = new FsmReducer(4);
        for (int input = 0; input < 2; input++) {
            x.set(0, input, e(NONE, 0));
            x.set(1, input, e(NONE, 1));
            x.set(2, input, e(0, NONE));
            x.set(3, input, e(1, NONE));
        }
        due("splitWord(0, 1) of 0 and 1", x.splitWord(0, 1), 0);
        due("splitWord(2, 3) of 00, 01, 10, 11", x.splitWord(2, 3), 0);
        x.set(0, 0, e(NONE, NONE));
        due("splitWord(0, 1) of 1", x.splitWord(0, 1), 1);
        due("splitWord(2, 3) of 01, 11", x.splitWord(2, 3), 1);
        x.set(2, 0, e(NONE, NONE));
        due("splitWord(2, 3) of 11", x.splitWord(2, 3), 3);
        x.set(0, 0, e(NONE, 0));
        due("splitWord(2, 3) of 10, 11", x.splitWord(2, 3), 2);
    }

    private static void firstDigitFirst() {
        sentence = "Promise 7: \"whose first digit is the first input\"";
        FsmReducer x = oneSplit(4, 0, 1);
        x.set(2, 0, e(0, NONE));
        x.set(3, 0, e(1, NONE));
        due("splitWord(2, 3) of 01", x.splitWord(2, 3), 1);
        FsmReducer y = new FsmReducer(4);
        y.set(0, 0, e(NONE, 0));
        y.set(1, 0, e(NONE, 1));
        y.set(2, 1, e(0, NONE));
        y.set(3, 1, e(1, NONE));
        due("splitWord(2, 3) of 10", y.splitWord(2, 3), 2);
    }

    // ---- Promises 8 to 11

    private static void compatibleSetAtItsBounds() {
        sentence = "Promise 8: \"-1 if set is not in 1 .. 2^n - 1\"";
        for (int n = 2; n <= 5; n++) {
            FsmReducer open = new FsmReducer(n);
            FsmReducer split = allSplit(n);
            due("compatibleSet(-1)", open.compatibleSet(-1), -1);
            due("compatibleSet(0)", open.compatibleSet(0), -1);
            for (int set = 1; set <= all(n); set++) {
                due("compatibleSet" + of(set) + ", open", open.compatibleSet(set), 1);
                due("compatibleSet" + of(set), split.compatibleSet(set), (set & (set - 1)) == 0 ? 1 : 0);
            }
            due("compatibleSet(2^n)", open.compatibleSet(1 << n), -1);
            due("compatibleSet(2^n + 1)", open.compatibleSet((1 << n) + 1), -1);
            for (int far : FAR) {
                due("compatibleSet" + of(far), open.compatibleSet(far), -1);
            }
        }
    }

    private static void fewestAndMostMaximals() {
        sentence = "Promise 9: \"How many maximal sets there are\"";
        for (int n = 2; n <= 5; n++) {
            due("maximals(), all open", new FsmReducer(n).maximals(), 1);
            due("maximals(), all split", allSplit(n).maximals(), n);
        }
        due("maximals(), two against three", twoAgainstThree().maximals(), 6);
    }

    private static void maximalAtItsBounds() {
        sentence = "Promise 10: \"in rising order of numbers (0 for the first); -1 if i is not in 0 .. maximals()-1\"";
        for (int n = 2; n <= 5; n++) {
            maximalsAre(new FsmReducer(n), all(n));
        }
        maximalsAre(allSplit(2), 1, 2);
        maximalsAre(allSplit(3), 1, 2, 4);
        maximalsAre(allSplit(4), 1, 2, 4, 8);
        maximalsAre(allSplit(5), 1, 2, 4, 8, 16);
        maximalsAre(ring(4), 3, 6, 9, 12);
        maximalsAre(ring(5), 3, 6, 12, 17, 24);
        maximalsAre(twoAgainstThree(), 5, 6, 9, 10, 17, 18);
    }

    private static void maximalsAre(FsmReducer x, int... want) {
        for (int i = 0; i < want.length; i++) {
            due("maximal" + of(i) + " of " + want.length, x.maximal(i), want[i]);
        }
        due("maximal(-1)", x.maximal(-1), -1);
        for (int i = want.length; i <= 33; i++) {
            due("maximal" + of(i) + " of " + want.length, x.maximal(i), -1);
        }
        for (int far : FAR) {
            due("maximal" + of(far) + " of " + want.length, x.maximal(far), -1);
        }
        // what stood behind the last one before is gone
        x.set(0, 0, 0);
        due("maximal(maximals())", x.maximal(x.maximals()), -1);
    }

    private static void impliedAtItsBounds() {
        sentence = "Promise 11: \"-1 if set is not in 1 .. 2^n - 1; -2 if input is not 0 or 1\"";
        for (int n = 2; n <= 5; n++) {
            FsmReducer x = new FsmReducer(n);
            for (int s = 0; s < n; s++) {
                x.set(s, 0, e(s, NONE));
                x.set(s, 1, e(s, NONE));
            }
            for (int set : new int[] {-1, 0, 1, all(n), 1 << n, (1 << n) + 1}) {
                for (int input = -1; input <= 2; input++) {
                    int want = !in(set, 1, all(n)) ? -1 : !in(input, 0, 1) ? -2 : set;
                    due("implied" + of(set, input), x.implied(set, input), want);
                }
            }
            for (int far : FAR) {
                due("implied" + of(far, 1), x.implied(far, 1), -1);
                due("implied" + of(all(n), far), x.implied(all(n), far), -2);
            }
        }
    }

    private static void impliedEmpty() {
        sentence = "Promise 11: \"(0 if it is empty)\"";
        for (int n = 2; n <= 5; n++) {
            FsmReducer x = new FsmReducer(n);
            x.set(n - 1, 0, e(n - 1, NONE));
            x.set(0, 1, e(NONE, 1));
            for (int set = 1; set <= all(n); set++) {
                boolean hasLast = set >= 1 << (n - 1);
                due("implied" + of(set, 0), x.implied(set, 0), hasLast ? 1 << (n - 1) : 0);
                due("implied" + of(set, 1), x.implied(set, 1), 0);
            }
        }
    }

    private static void impliedOfAnySet() {
        sentence = "Promise 11: \"The set need not be compatible\"";
        for (int n = 3; n <= 5; n++) {
            FsmReducer x = ring(n);
            for (int set = 1; set <= all(n); set++) {
                int turned = (set << 1 | set >> (n - 1)) & all(n);
                due("implied" + of(set, 1) + " of " + n, x.implied(set, 1), turned);
            }
        }
        due("implied(3, 1) of two split states", allSplit(2).implied(3, 1), 1);
    }

    // ---- Promises 12 to 14

    private static void coverIs(FsmReducer x, int... want) {
        due("coverSize()", x.coverSize(), want.length);
        for (int i = 0; i < want.length; i++) {
            due("coverSet" + of(i) + " of " + want.length, x.coverSet(i), want[i]);
        }
        due("coverSet(coverSize())", x.coverSet(want.length), -1);
    }

    private static void coverOfOneSet() {
        sentence = "Promises 12 and 13: \"a list of one or more compatible sets\", one set";
        for (int n = 2; n <= 5; n++) {
            FsmReducer x = new FsmReducer(n);
            coverIs(x, all(n));
            for (int s = 0; s < n; s++) {
                x.set(s, 0, e((s + 1) % n, 1));
                x.set(s, 1, e(n - 1 - s, NONE));
            }
            coverIs(x, all(n));
        }
    }

    /** In the rings of four and five, a set of two members wants the next one, and so on round. */
    private static void coverOfAsManySetsAsStates() {
        sentence = "Promises 12 and 13: as many sets as states";
        coverIs(allSplit(2), 1, 2);
        coverIs(allSplit(3), 1, 2, 4);
        coverIs(allSplit(4), 1, 2, 4, 8);
        coverIs(allSplit(5), 1, 2, 4, 8, 16);
        coverIs(ring(3), 1, 2, 4);
        coverIs(ring(4), 1, 2, 4, 8);
        coverIs(ring(5), 1, 2, 4, 8, 16);
    }

    /** The first k states are against each other and the others are open: these join the last set. */
    private static void coverOfFirstSplitIs(FsmReducer x, int n, int k) {
        due("coverSize() of " + of(n, k), x.coverSize(), k);
        for (int i = 0; i < k - 1; i++) {
            due("coverSet" + of(i) + " of " + of(n, k), x.coverSet(i), 1 << i);
        }
        due("coverSet" + of(k - 1) + " of " + of(n, k), x.coverSet(k - 1), all(n) - all(k - 1));
        due("coverSet" + of(k) + " of " + of(n, k), x.coverSet(k), -1);
    }

    private static void coverOfEverySize() {
        sentence = "Promise 12: \"How many sets the best cover has\"";
        for (int n = 2; n <= 5; n++) {
            for (int k = 1; k <= n; k++) {
                coverOfFirstSplitIs(firstSplit(n, k), n, k);
            }
        }
    }

    private static void coverShrinksAndGrows() {
        sentence = "Promises 12 and 13: nothing is left of an earlier cover";
        for (int n = 2; n <= 5; n++) {
            FsmReducer x = allSplit(n);
            for (int k = n - 1; k >= 1; k--) {
                x.set(k, 0, 0);
                x.set(k, 1, 0);
                coverOfFirstSplitIs(x, n, k);
            }
            addSplits(x, 1, n);
            coverOfFirstSplitIs(x, n, n);
            for (int s = 0; s < n; s++) {
                x.set(s, 0, 0);
                x.set(s, 1, 0);
            }
            coverIs(x, all(n));
        }
    }

    private static void fewestSets() {
        sentence = "Promise 13: \"among the covers with the fewest sets\"";
        for (int n = 2; n <= 5; n++) {
            FsmReducer x = new FsmReducer(n);
            due("isCover" + of(1, all(n) - 1, 0), x.isCover(1, all(n) - 1, 0), 1);
            coverIs(x, all(n));
        }
        FsmReducer y = oneSplit(3, 0, 1);
        due("isCover(1, 2, 4)", y.isCover(1, 2, 4), 1);
        coverIs(y, 1, 6);
    }

    private static void firstSetsCompared() {
        sentence = "Promise 13: \"the order that compares their first sets\"";
        for (int n = 2; n <= 5; n++) {
            for (int t = 1; t < n; t++) {
                for (int s = 0; s < t; s++) {
                    FsmReducer x = oneSplit(n, s, t);
                    due("isCover, t alone", x.isCover(1 << t, all(n) - (1 << t), 0), 1);
                    due("isCover, overlapping", x.isCover(all(n) - (1 << s), all(n) - (1 << t), 0), 1);
                    coverIs(x, 1 << s, all(n) - (1 << s));
                }
            }
        }
    }

    /** 0 is against 1 and 3; 1 and 2 together lead to 0 and 2, which wants the set 5. */
    private static void secondSetsCompared() {
        sentence = "Promise 13: \"then their second sets\"";
        FsmReducer x = new FsmReducer(4);
        x.set(0, 1, e(NONE, 0));
        x.set(1, 1, e(NONE, 1));
        x.set(3, 1, e(NONE, 1));
        x.set(1, 0, e(0, NONE));
        x.set(2, 0, e(2, NONE));
        due("isCover(1, 14, 0)", x.isCover(1, 14, 0), 0);
        due("isCover(2, 13, 0)", x.isCover(2, 13, 0), 0);
        due("isCover(5, 14, 0)", x.isCover(5, 14, 0), 1);
        due("isCover(5, 10, 0)", x.isCover(5, 10, 0), 1);
        coverIs(x, 5, 10);
    }

    /** The machine of the second sets with every state one further; 0 is against all of them. */
    private static void thirdSetsCompared() {
        sentence = "Promise 13: \"and so on, by number\"";
        FsmReducer x = new FsmReducer(5);
        x.set(0, 0, e(NONE, 0));
        x.set(1, 0, e(NONE, 1));
        x.set(2, 0, e(1, 1));
        x.set(3, 0, e(3, 1));
        x.set(4, 0, e(NONE, 1));
        x.set(1, 1, e(NONE, 0));
        x.set(2, 1, e(NONE, 1));
        x.set(4, 1, e(NONE, 1));
        due("isCover(1, 2, 28)", x.isCover(1, 2, 28), 0);
        due("isCover(1, 10, 28)", x.isCover(1, 10, 28), 1);
        due("isCover(1, 10, 20)", x.isCover(1, 10, 20), 1);
        coverIs(x, 1, 10, 20);
    }

    /** 1 is against 3 and so 2 against 4; the maximal sets 25 and 13 want sets that no two of them hold. */
    private static void coverWithoutMaximalSets() {
        sentence = "Promise 13: \"compatible sets\", not maximal ones alone";
        FsmReducer x = new FsmReducer(5);
        x.set(0, 0, e(2, NONE));
        x.set(1, 1, e(NONE, 1));
        x.set(2, 0, e(1, NONE));
        x.set(3, 1, e(NONE, 0));
        x.set(4, 0, e(3, NONE));
        due("maximals()", x.maximals(), 4);
        due("isCover(7, 25, 0)", x.isCover(7, 25, 0), 0);
        due("isCover(13, 19, 0)", x.isCover(13, 19, 0), 0);
        due("isCover(12, 19, 0)", x.isCover(12, 19, 0), 1);
        due("isCover(7, 24, 0)", x.isCover(7, 24, 0), 1);
        coverIs(x, 7, 24);
    }

    private static void coverSetAtItsBounds() {
        sentence = "Promise 13: \"-1 if i is not in 0 .. coverSize()-1\"";
        for (int n = 2; n <= 5; n++) {
            for (int k = 1; k <= n; k++) {
                FsmReducer x = firstSplit(n, k);
                due("coverSet(-1) of " + of(n, k), x.coverSet(-1), -1);
                due("coverSet(0) of " + of(n, k), x.coverSet(0), k == 1 ? all(n) : 1);
                due("coverSet" + of(k - 1) + " of " + of(n, k), x.coverSet(k - 1), all(n) - all(k - 1));
                for (int i = k; i <= 33; i++) {
                    due("coverSet" + of(i) + " of " + of(n, k), x.coverSet(i), -1);
                }
                for (int far : FAR) {
                    due("coverSet" + of(far) + " of " + of(n, k), x.coverSet(far), -1);
                }
            }
        }
    }

    private static void inEveryOrder(FsmReducer x, int a, int b, int c, int want) {
        due("isCover" + of(a, b, c), x.isCover(a, b, c), want);
        due("isCover" + of(a, c, b), x.isCover(a, c, b), want);
        due("isCover" + of(b, a, c), x.isCover(b, a, c), want);
        due("isCover" + of(b, c, a), x.isCover(b, c, a), want);
        due("isCover" + of(c, a, b), x.isCover(c, a, b), want);
        due("isCover" + of(c, b, a), x.isCover(c, b, a), want);
    }

    private static void listOfOne() {
        sentence = "Promise 14: \"those of them that are not 0, in rising order, equal ones once\", one set";
        for (int n = 2; n <= 5; n++) {
            FsmReducer x = new FsmReducer(n);
            for (int set : new int[] {1, all(n) - 1, all(n)}) {
                int want = set == all(n) ? 1 : 0;
                inEveryOrder(x, set, 0, 0, want);
                inEveryOrder(x, set, set, 0, want);
                inEveryOrder(x, set, set, set, want);
            }
        }
    }

    private static void listOfTwo() {
        sentence = "Promise 14: \"those of them that are not 0, in rising order, equal ones once\", two sets";
        for (int n = 2; n <= 5; n++) {
            FsmReducer x = oneSplit(n, 0, n - 1);
            int rest = all(n) - 1;
            inEveryOrder(x, 1, rest, 0, 1);
            inEveryOrder(x, 1, 1, rest, 1);
            inEveryOrder(x, 1, rest, rest, 1);
            inEveryOrder(x, 1, all(n), 0, 0);
            inEveryOrder(x, rest, rest, all(n), 0);
        }
    }

    private static void listOfThree() {
        sentence = "Promise 14: \"those of them that are not 0, in rising order, equal ones once\", three sets";
        for (int n = 3; n <= 5; n++) {
            FsmReducer x = firstSplit(n, 3);
            inEveryOrder(x, 1, 2, all(n) - 3, 1);
            inEveryOrder(x, all(n) - 6, 2, 4, 1);
            inEveryOrder(x, 1, 3, all(n) - 3, 0);
            inEveryOrder(x, 1, 2, all(n), 0);
            inEveryOrder(x, 1, 2, 1, 0);
        }
    }

    private static void isCoverAtItsBounds() {
        sentence = "Promise 14: \"-1 if one of them is not in 0 .. 2^n - 1 or all are 0\"";
        for (int n = 2; n <= 5; n++) {
            FsmReducer x = new FsmReducer(n);
            int whole = all(n);
            due("isCover(0, 0, 0)", x.isCover(0, 0, 0), -1);
            inEveryOrder(x, -1, whole, whole, -1);
            inEveryOrder(x, -1, 0, 0, -1);
            inEveryOrder(x, whole + 1, whole, whole, -1);
            inEveryOrder(x, whole + 1, 0, 0, -1);
            inEveryOrder(x, whole + 1, -1, whole, -1);
            inEveryOrder(x, whole, 1, 0, 1);
            for (int far : FAR) {
                inEveryOrder(x, far, whole, 0, -1);
                due("isCover" + of(far, far, far), x.isCover(far, far, far), -1);
            }
        }
    }

    private static void everyStateInOne() {
        sentence = "Promise 14: \"every state is in at least one of them\"";
        for (int n = 2; n <= 5; n++) {
            FsmReducer x = new FsmReducer(n);
            for (int s = 0; s < n; s++) {
                int others = all(n) - (1 << s);
                due("isCover" + of(others, 0, 0), x.isCover(others, 0, 0), 0);
                due("isCover" + of(others, others & -others, 0), x.isCover(others, others & -others, 0), 0);
                due("isCover" + of(others, 1 << s, 0), x.isCover(others, 1 << s, 0), 1);
                due("isCover" + of(others, 1 << s, all(n)), x.isCover(others, 1 << s, all(n)), 1);
            }
        }
    }

    private static void everySetCompatible() {
        sentence = "Promise 14: \"a list of one or more compatible sets\"";
        for (int n = 2; n <= 5; n++) {
            for (int t = 1; t < n; t++) {
                FsmReducer x = oneSplit(n, 0, t);
                due("isCover of the whole", x.isCover(all(n), 0, 0), 0);
                due("isCover of two", x.isCover(1, all(n) - 1, 0), 1);
                due("isCover of two and the whole", x.isCover(1, all(n) - 1, all(n)), 0);
                due("isCover of two and the two split ones", x.isCover(1, all(n) - 1, 1 | 1 << t), 0);
            }
        }
    }

    /** 0 leads to 1 and 1 to 2, so that 3 wants 6; 2 leads nowhere, so that 4 wants nothing. */
    private static void nextStatesPartOfOne() {
        sentence = "Promise 14: \"the set of all next states .. is empty or is part of some set of the list\"";
        for (int input = 0; input < 2; input++) {
            FsmReducer x = new FsmReducer(3);
            x.set(0, input, e(1, NONE));
            x.set(1, input, e(2, NONE));
            due("isCover(3, 4, 0), wants 6", x.isCover(3, 4, 0), 0);
            due("isCover(3, 5, 0), 6 is in both but in neither", x.isCover(3, 5, 0), 0);
            due("isCover(1, 3, 4), wants 6", x.isCover(1, 3, 4), 0);
            due("isCover(3, 6, 0), has 6", x.isCover(3, 6, 0), 1);
            due("isCover(3, 4, 6), has 6", x.isCover(3, 4, 6), 1);
            due("isCover(3, 7, 0), 6 is part of 7", x.isCover(3, 7, 0), 1);
            due("isCover(7, 0, 0), 6 is part of 7 itself", x.isCover(7, 0, 0), 1);
            due("isCover(5, 2, 0), 5 wants 2 alone", x.isCover(5, 2, 0), 1);
            due("isCover(1, 6, 0), 1 wants part of 6", x.isCover(1, 6, 0), 1);
            due("isCover(1, 2, 4), 4 wants nothing", x.isCover(1, 2, 4), 1);
        }
    }

    /** 2 leads to 0 and 1 to itself, so that 6, the last set of a list, wants 3. */
    private static void nextStatesOfEverySet() {
        sentence = "Promise 14: \"for every set C of the list and every input a\"";
        for (int input = 0; input < 2; input++) {
            FsmReducer x = new FsmReducer(3);
            x.set(2, input, e(0, NONE));
            x.set(1, input, e(1, NONE));
            due("isCover(1, 6, 0)", x.isCover(1, 6, 0), 0);
            due("isCover(1, 2, 6)", x.isCover(1, 2, 6), 0);
            due("isCover(1, 5, 6)", x.isCover(1, 5, 6), 0);
            due("isCover(3, 6, 0)", x.isCover(3, 6, 0), 1);
            due("isCover(1, 3, 6)", x.isCover(1, 3, 6), 1);
            due("isCover(2, 5, 0)", x.isCover(2, 5, 0), 1);
            // 3 itself wants 5 for the other input
            x.set(0, 1 - input, e(0, NONE));
            x.set(1, 1 - input, e(2, NONE));
            due("isCover(3, 6, 0), 3 wants 5", x.isCover(3, 6, 0), 0);
            due("isCover(3, 5, 6)", x.isCover(3, 5, 6), 1);
        }
    }

    private static void setsWithOneMember() {
        sentence = "\"(The list of all sets with one member is a cover.)\"";
        due("isCover(1, 2, 0), open", new FsmReducer(2).isCover(1, 2, 0), 1);
        due("isCover(1, 2, 0), split", allSplit(2).isCover(1, 2, 0), 1);
        for (FsmReducer x : List.of(new FsmReducer(3), allSplit(3), ring(3), oneSplit(3, 1, 2), walkAfter(2))) {
            due("isCover(1, 2, 4)", x.isCover(1, 2, 4), 1);
        }
    }

    // ---- Promises 15 to 17

    private static void runAtFirst() {
        sentence = "\"at first, and after every accepted set, it is in state 0\"";
        for (int n = 2; n <= 5; n++) {
            FsmReducer x = new FsmReducer(n);
            due("lost() at first", x.lost(), 0);
            due("read(0) at first", x.read(0), -2);
            due("lost() then", x.lost(), 1);
            x.set(n - 1, 0, e(n - 1, 1));
            due("lost() after a set", x.lost(), 0);
            due("read(0) after a set of another state", x.read(0), -2);
            x.set(0, 0, e(n - 1, 0));
            due("read(0) after a set of state 0", x.read(0), 0);
            due("read(0) in the last state", x.read(0), 1);
            x.set(1, 1, 0);
            due("read(0) after one more set", x.read(0), 0);
        }
    }

    private static void restartFromAnywhere() {
        sentence = "Promise 15: \"The run is in state 0\"";
        changesNothingFromTheStart();
        for (int steps = 0; steps <= STEPS_TO_LOST; steps++) {
            FsmReducer x = walkAfter(steps);
            x.restart();
            due("lost() after " + steps + " steps and a restart", x.lost(), 0);
            due("read(0) after " + steps + " steps and a restart", x.read(0), told(0));
            due("read(0) after that", x.read(0), told(1));
            x.restart();
            x.restart();
            due("read(0) after two restarts", x.read(0), told(0));
        }
    }

    private static void changesNothingFromTheStart() {
        FsmReducer x = walkAfter(STEPS_TO_LOST);
        x.restart();
        String want = answersOf(walkAfter(0));
        String got = answersOf(x);
        if (!got.equals(want)) {
            wrong++;
            System.out.println(sentence + ": after a restart stands " + got + ", due is " + want);
        }
    }

    private static void readAtItsBounds() {
        sentence = "Promise 16: \"-1 if input is not 0 or 1 (tested first; nothing changes)\"";
        for (int steps = 0; steps <= STEPS_TO_LOST; steps++) {
            FsmReducer x = walkAfter(steps);
            due("read(-1) after " + steps + " steps", x.read(-1), -1);
            due("read(2) after " + steps + " steps", x.read(2), -1);
            for (int far : FAR) {
                due("read" + of(far) + " after " + steps + " steps", x.read(far), -1);
            }
            due("lost() after " + steps + " steps", x.lost(), steps == STEPS_TO_LOST ? 1 : 0);
            due("read(0) after " + steps + " steps", x.read(0), told(steps));
        }
    }

    private static void lostStaysLost() {
        sentence = "Promise 16: \"-3 if the run is lost (it stays lost)\"";
        FsmReducer x = walkAfter(STEPS_TO_LOST);
        for (int k = 0; k < 8; k++) {
            due("read" + of(k % 2) + " of a lost run", x.read(k % 2), -3);
            due("lost() after it", x.lost(), 1);
            due("read(2) of a lost run", x.read(2), -1);
            due("set(3, 0, 0), refused", x.set(3, 0, 0), -1);
            due("lost() after refused calls", x.lost(), 1);
        }
        x.restart();
        due("read(0) after a restart", x.read(0), told(0));
    }

    private static void lostFromNowOn() {
        sentence = "Promise 16: \"or is lost from now on if that is NONE\"";
        for (int n = 2; n <= 5; n++) {
            for (int input = 0; input < 2; input++) {
                for (int output = NONE; output <= 1; output++) {
                    FsmReducer x = lineTo(n, input, e(NONE, output));
                    due("lost() in the last state", x.lost(), 0);
                    due("read" + of(input) + " in the last state", x.read(input), output == NONE ? -2 : output);
                    due("lost() after it", x.lost(), 1);
                    due("read(0) after it", x.read(0), -3);
                    due("read(1) after it", x.read(1), -3);
                }
            }
        }
    }

    private static void openOutput() {
        sentence = "Promise 16: \"or -2 if that output is NONE\"";
        for (int n = 2; n <= 5; n++) {
            for (int input = 0; input < 2; input++) {
                FsmReducer x = lineTo(n, input, e(n - 1, NONE));
                due("read" + of(input) + " in the last state", x.read(input), -2);
                due("read" + of(input) + " in the last state again", x.read(input), -2);
                due("lost()", x.lost(), 0);
                FsmReducer y = lineTo(n, input, e(0, NONE));
                due("read" + of(input) + " from the last state to 0", y.read(input), -2);
                due("read(0) in state 0", y.read(0), 0);
            }
        }
    }

    private static void outputOfTheStateBefore() {
        sentence = "Promise 16: \"the output of the state in which it was for the input\"";
        for (int n = 2; n <= 5; n++) {
            FsmReducer x = lineTo(n, 0, e(0, 1));
            due("read(0) from the last state to 0", x.read(0), 1);
            due("read(0) in state 0", x.read(0), 0);
            FsmReducer y = lineTo(n, 1, e(n - 1, 1));
            due("read(1) in the last state", y.read(1), 1);
            due("read(1) in the last state again", y.read(1), 1);
            due("read(0) in the last state", y.read(0), -2);
            due("lost()", y.lost(), 1);
        }
    }

    private static void lostOrNot() {
        sentence = "Promise 17: \"1 if the run is lost, otherwise 0\"";
        for (int n = 2; n <= 5; n++) {
            FsmReducer x = new FsmReducer(n);
            for (int s = 0; s < n; s++) {
                x.set(s, 0, e(s == n - 1 ? NONE : s + 1, s & 1));
            }
            for (int s = 0; s < n; s++) {
                due("lost() in state " + s, x.lost(), 0);
                x.read(0);
            }
            due("lost() behind the last state", x.lost(), 1);
            x.restart();
            due("lost() after a restart", x.lost(), 0);
            x.read(1);
            due("lost() after state 0", x.lost(), 1);
        }
    }
}
