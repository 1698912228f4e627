import java.lang.reflect.Member;
import java.lang.reflect.Modifier;
import java.util.List;
import java.util.TreeSet;

/** Each promise of the document in turn, with answers worked out by hand. */
public final class PromisesTest {
    private static final int NONE = FsmReducer.NONE;
    private static final int[] FAR = {-2, -1000, 1000, Integer.MIN_VALUE, Integer.MAX_VALUE};

    private static int wrong = 0;
    private static String promise = "";

    public static void main(String[] args) {
        publicFace();
        newObject();
        states();
        set();
        setMovesTheRun();
        entry();
        compatible();
        splitLength();
        splitWord();
        longestSplit();
        compatibleSet();
        maximals();
        maximal();
        implied();
        coverSize();
        coverSet();
        coverWithoutMaximalSets();
        isCover();
        restart();
        read();
        lost();
        questionsChangeNothing();
        objectsAreApart();
        System.out.println(wrong == 0 ? "all promises hold" : wrong + " answers are not as due");
        if (wrong != 0) {
            System.exit(1);
        }
    }

    private static void due(String call, long got, long want) {
        if (got != want) {
            wrong++;
            System.out.println(promise + ": " + call + " answered " + got + ", due is " + want);
        }
    }

    private static int e(int next, int output) {
        return 3 * (next + 1) + (output + 1);
    }

    /** 0 and 1 differ at once for input 0, 2 and 3 lead to them for input 1, 4 is wholly open. */
    private static FsmReducer chain() {
        FsmReducer x = new FsmReducer(5);
        x.set(0, 0, e(NONE, 0));
        x.set(1, 0, e(NONE, 1));
        x.set(2, 1, e(0, NONE));
        x.set(3, 1, e(1, NONE));
        return x;
    }

    /** States 0, 1, 2 in a ring for input 0; only 0 and 1 differ at once, for input 1. */
    private static FsmReducer ring() {
        FsmReducer x = new FsmReducer(3);
        x.set(0, 0, e(1, NONE));
        x.set(1, 0, e(2, NONE));
        x.set(2, 0, e(0, NONE));
        x.set(0, 1, e(NONE, 0));
        x.set(1, 1, e(NONE, 1));
        return x;
    }

    private static void publicFace() {
        promise = "the public face";
        due("NONE", FsmReducer.NONE, -1);
        due("the class is public", Modifier.isPublic(FsmReducer.class.getModifiers()) ? 1 : 0, 1);
        due("the class is final", Modifier.isFinal(FsmReducer.class.getModifiers()) ? 1 : 0, 1);
        TreeSet<String> want = new TreeSet<>(List.of(
            "public static final int FsmReducer.NONE",
            "public FsmReducer(int)",
            "public int FsmReducer.states()",
            "public int FsmReducer.set(int,int,int)",
            "public int FsmReducer.entry(int,int)",
            "public int FsmReducer.compatible(int,int)",
            "public int FsmReducer.splitLength(int,int)",
            "public int FsmReducer.splitWord(int,int)",
            "public int FsmReducer.compatibleSet(int)",
            "public int FsmReducer.maximals()",
            "public int FsmReducer.maximal(int)",
            "public int FsmReducer.implied(int,int)",
            "public int FsmReducer.coverSize()",
            "public int FsmReducer.coverSet(int)",
            "public int FsmReducer.isCover(int,int,int)",
            "public void FsmReducer.restart()",
            "public int FsmReducer.read(int)",
            "public int FsmReducer.lost()"));
        TreeSet<String> seen = new TreeSet<>();
        addVisible(seen, FsmReducer.class.getDeclaredFields());
        addVisible(seen, FsmReducer.class.getDeclaredMethods());
        addVisible(seen, FsmReducer.class.getDeclaredConstructors());
        if (!seen.equals(want)) {
            wrong++;
            System.out.println(promise + ": is " + seen + ", due is " + want);
        }
    }

    private static void addVisible(TreeSet<String> seen, Member[] members) {
        for (Member m : members) {
            if (!Modifier.isPrivate(m.getModifiers())) {
                seen.add(m.toString());
            }
        }
    }

    private static void newObject() {
        promise = "promise 1";
        int[] given = {Integer.MIN_VALUE, -1, 0, 1, 2, 3, 4, 5, 6, 7, 100, Integer.MAX_VALUE};
        int[] want = {2, 2, 2, 2, 2, 3, 4, 5, 5, 5, 5, 5};
        for (int k = 0; k < given.length; k++) {
            FsmReducer x = new FsmReducer(given[k]);
            int n = want[k];
            due("states() of " + given[k], x.states(), n);
            for (int s = 0; s < n; s++) {
                due("entry(" + s + ", 0)", x.entry(s, 0), 0);
                due("entry(" + s + ", 1)", x.entry(s, 1), 0);
            }
            due("entry(n, 0)", x.entry(n, 0), -1);
            due("compatible(0, n-1)", x.compatible(0, n - 1), 1);
            due("maximals()", x.maximals(), 1);
            due("maximal(0)", x.maximal(0), (1 << n) - 1);
            due("coverSize()", x.coverSize(), 1);
            due("coverSet(0)", x.coverSet(0), (1 << n) - 1);
            due("lost()", x.lost(), 0);
        }
    }

    private static void states() {
        promise = "promise 2";
        FsmReducer x = new FsmReducer(4);
        due("states()", x.states(), 4);
        x.set(3, 1, e(3, 1));
        x.read(0);
        due("states() later", x.states(), 4);
    }

    private static void set() {
        promise = "promise 3";
        for (int n = 2; n <= 5; n++) {
            FsmReducer x = new FsmReducer(n);
            int top = 3 * (n + 1) - 1;
            due("set(0, 0, top)", x.set(0, 0, top), 0);
            due("set(0, 0, 1)", x.set(0, 0, 1), top);
            due("set(0, 0, 0)", x.set(0, 0, 0), 1);
            due("set(n-1, 1, top)", x.set(n - 1, 1, top), 0);
            due("set(n-1, 1, top) again", x.set(n - 1, 1, top), top);
            due("set(n-1, 0, 2)", x.set(n - 1, 0, 2), 0);
            due("set(-1, 0, 0)", x.set(-1, 0, 0), -1);
            due("set(n, 0, 0)", x.set(n, 0, 0), -1);
            due("set(0, -1, 0)", x.set(0, -1, 0), -2);
            due("set(0, 2, 0)", x.set(0, 2, 0), -2);
            due("set(0, 0, -1)", x.set(0, 0, -1), -3);
            due("set(0, 0, top+1)", x.set(0, 0, top + 1), -3);
            due("set(n, 2, -1)", x.set(n, 2, -1), -1);
            due("set(0, 2, -1)", x.set(0, 2, -1), -2);
            for (int far : FAR) {
                due("set(far, 0, 0)", x.set(far, 0, 0), -1);
                due("set(0, far, 0)", x.set(0, far, 0), -2);
                due("set(0, 0, far)", x.set(0, 0, far), -3);
            }
            due("entry(0, 0)", x.entry(0, 0), 0);
            due("entry(0, 1)", x.entry(0, 1), 0);
            due("entry(n-1, 0)", x.entry(n - 1, 0), 2);
            due("entry(n-1, 1)", x.entry(n - 1, 1), top);
        }
    }

    private static void setMovesTheRun() {
        promise = "promise 3, the run";
        FsmReducer x = new FsmReducer(2);
        x.set(0, 0, e(1, 0));
        x.set(1, 0, e(NONE, 1));
        x.read(0);
        x.set(-1, 0, 0);
        x.set(0, 2, 0);
        x.set(0, 0, 9);
        due("read(0) after refused sets", x.read(0), 1);
        x.set(2, 0, 0);
        due("lost() after a refused set", x.lost(), 1);
        due("set(0, 0, same)", x.set(0, 0, e(1, 0)), e(1, 0));
        due("lost() after an accepted set", x.lost(), 0);
        due("read(0) after an accepted set", x.read(0), 0);
        due("set(1, 1, 0)", x.set(1, 1, 0), 0);
        due("read(0) after another set", x.read(0), 0);
    }

    private static void entry() {
        promise = "promise 4";
        for (int n = 2; n <= 5; n++) {
            FsmReducer x = new FsmReducer(n);
            for (int k = 0; k < 2 * n; k++) {
                x.set(k / 2, k % 2, k + 1);
            }
            for (int k = 0; k < 2 * n; k++) {
                due("entry(" + k / 2 + ", " + k % 2 + ")", x.entry(k / 2, k % 2), k + 1);
            }
            due("entry(-1, 0)", x.entry(-1, 0), -1);
            due("entry(n, 1)", x.entry(n, 1), -1);
            due("entry(0, -1)", x.entry(0, -1), -2);
            due("entry(n-1, 2)", x.entry(n - 1, 2), -2);
            due("entry(n, 2)", x.entry(n, 2), -1);
            for (int far : FAR) {
                due("entry(far, 0)", x.entry(far, 0), -1);
                due("entry(0, far)", x.entry(0, far), -2);
            }
        }
    }

    private static void compatible() {
        promise = "promise 5";
        FsmReducer x = chain();
        int[] want = {
            1, 0, 1, 1, 1,
            0, 1, 1, 1, 1,
            1, 1, 1, 0, 1,
            1, 1, 0, 1, 1,
            1, 1, 1, 1, 1};
        for (int k = 0; k < 25; k++) {
            due("compatible(" + k / 5 + ", " + k % 5 + ")", x.compatible(k / 5, k % 5), want[k]);
        }
        due("compatible(-1, 0)", x.compatible(-1, 0), -1);
        due("compatible(0, -1)", x.compatible(0, -1), -1);
        due("compatible(5, 5)", x.compatible(5, 5), -1);
        for (int far : FAR) {
            due("compatible(far, 0)", x.compatible(far, 0), -1);
            due("compatible(0, far)", x.compatible(0, far), -1);
        }
        due("compatible(2, 0) of two states", new FsmReducer(2).compatible(2, 0), -1);
        // the outputs on the way do not matter, a missing next state does
        x.set(2, 1, e(0, 1));
        due("compatible(2, 3) with one output", x.compatible(2, 3), 0);
        x.set(2, 1, e(NONE, 1));
        due("compatible(2, 3) with no way", x.compatible(2, 3), 1);
        x.set(1, 0, e(NONE, 0));
        due("compatible(0, 1) with like outputs", x.compatible(0, 1), 1);
    }

    private static void splitLength() {
        promise = "promise 6";
        FsmReducer x = ring();
        due("splitLength(0, 1)", x.splitLength(0, 1), 1);
        due("splitLength(1, 0)", x.splitLength(1, 0), 1);
        due("splitLength(0, 2)", x.splitLength(0, 2), 2);
        due("splitLength(2, 1)", x.splitLength(2, 1), 3);
        due("splitLength(1, 2)", x.splitLength(1, 2), 3);
        due("splitLength(1, 1)", x.splitLength(1, 1), -2);
        due("splitLength(3, 0)", x.splitLength(3, 0), -1);
        due("splitLength(0, 3)", x.splitLength(0, 3), -1);
        due("splitLength(3, 3)", x.splitLength(3, 3), -1);
        due("splitLength(-1, -1)", x.splitLength(-1, -1), -1);
        for (int far : FAR) {
            due("splitLength(far, 0)", x.splitLength(far, 0), -1);
            due("splitLength(0, far)", x.splitLength(0, far), -1);
        }
        x.set(2, 0, e(NONE, NONE));
        due("splitLength(0, 2) with no way", x.splitLength(0, 2), -2);
        x.set(0, 1, e(NONE, NONE));
        due("splitLength(0, 1) with an open output", x.splitLength(0, 1), -2);
    }

    private static void splitWord() {
        promise = "promise 7";
        FsmReducer x = ring();
        due("splitWord(0, 1)", x.splitWord(0, 1), 1);
        due("splitWord(2, 0)", x.splitWord(2, 0), 1);
        due("splitWord(1, 2)", x.splitWord(1, 2), 1);
        due("splitWord(2, 2)", x.splitWord(2, 2), -2);
        due("splitWord(3, 0)", x.splitWord(3, 0), -1);
        due("splitWord(0, 3)", x.splitWord(0, 3), -1);
        due("splitWord(3, 3)", x.splitWord(3, 3), -1);
        for (int far : FAR) {
            due("splitWord(far, 0)", x.splitWord(far, 0), -1);
            due("splitWord(0, far)", x.splitWord(0, far), -1);
        }
        FsmReducer y = chain();
        due("splitWord(0, 1)", y.splitWord(0, 1), 0);
        due("splitWord(2, 3), first input first", y.splitWord(2, 3), 2);
        due("splitWord(0, 4)", y.splitWord(0, 4), -2);
        // a shorter word wins though it is the greater number
        y.set(2, 1, e(0, 0));
        y.set(3, 1, e(1, 1));
        y.set(2, 0, e(0, NONE));
        y.set(3, 0, e(1, NONE));
        due("splitWord(2, 3), shorter first", y.splitWord(2, 3), 1);
        due("splitLength(2, 3), shorter first", y.splitLength(2, 3), 1);
        // of two words of one length the lesser
        y.set(3, 1, e(1, 0));
        due("splitWord(2, 3), 00 and 10", y.splitWord(2, 3), 0);
        due("splitLength(2, 3), 00 and 10", y.splitLength(2, 3), 2);
        y.set(3, 0, e(NONE, NONE));
        due("splitWord(2, 3), 10 alone", y.splitWord(2, 3), 2);
    }

    /** The shortest word of 1 and 2 goes through all ten twos of states: no word need be longer. */
    private static void longestSplit() {
        promise = "promises 6 and 7, the longest word";
        FsmReducer x = new FsmReducer(5);
        for (int input = 0; input < 2; input++) {
            x.set(0, input, e(4, NONE));
            x.set(1, input, e(3, NONE));
            x.set(2, input, e(0, 0));
            x.set(3, input, e(2, 1));
            x.set(4, input, e(input, NONE));
        }
        int[] s = {2, 1, 1, 0, 0, 3, 0, 2, 0, 1};
        int[] t = {3, 3, 4, 4, 2, 4, 1, 4, 3, 2};
        int[] want = {0, 0, 4, 12, 12, 12, 12, 128 + 12, 128 + 12, 128 + 12};
        for (int k = 0; k < 10; k++) {
            String of = "(" + s[k] + ", " + t[k] + ")";
            due("splitLength" + of, x.splitLength(s[k], t[k]), k + 1);
            due("splitWord" + of, x.splitWord(s[k], t[k]), want[k]);
            due("splitWord" + of + " turned round", x.splitWord(t[k], s[k]), want[k]);
        }
    }

    private static void compatibleSet() {
        promise = "promise 8";
        FsmReducer x = chain();
        for (int set = 1; set <= 31; set++) {
            boolean split = (set & 3) == 3 || (set & 12) == 12;
            due("compatibleSet(" + set + ")", x.compatibleSet(set), split ? 0 : 1);
        }
        due("compatibleSet(0)", x.compatibleSet(0), -1);
        due("compatibleSet(32)", x.compatibleSet(32), -1);
        due("compatibleSet(-1)", x.compatibleSet(-1), -1);
        for (int far : FAR) {
            due("compatibleSet(far)", x.compatibleSet(far), -1);
        }
        for (int n = 2; n <= 5; n++) {
            FsmReducer y = new FsmReducer(n);
            due("compatibleSet(2^n - 1)", y.compatibleSet((1 << n) - 1), 1);
            due("compatibleSet(2^n)", y.compatibleSet(1 << n), -1);
        }
    }

    private static void maximals() {
        promise = "promise 9";
        due("maximals() of the chain", chain().maximals(), 4);
        FsmReducer x = ring();
        due("maximals() of the ring", x.maximals(), 3);
        x.set(2, 0, 0);
        due("maximals() of the cut ring", x.maximals(), 2);
        due("maximals() of an open machine", new FsmReducer(4).maximals(), 1);
        // 0 against 1, and 2 against 3 and 4 at once, 3 against 4 after one input: 2 * 3 sets
        FsmReducer y = chain();
        y.set(2, 1, e(NONE, 0));
        y.set(3, 1, e(2, 1));
        y.set(4, 1, e(3, 1));
        due("maximals(), two against three", y.maximals(), 6);
        due("maximal(5)", y.maximal(5), 18);
        due("maximal(6)", y.maximal(6), -1);
    }

    private static void maximal() {
        promise = "promise 10";
        FsmReducer x = chain();
        int[] want = {16 + 4 + 1, 16 + 4 + 2, 16 + 8 + 1, 16 + 8 + 2};
        for (int i = 0; i < want.length; i++) {
            due("maximal(" + i + ")", x.maximal(i), want[i]);
        }
        due("maximal(4)", x.maximal(4), -1);
        due("maximal(-1)", x.maximal(-1), -1);
        for (int far : FAR) {
            due("maximal(far)", x.maximal(far), -1);
        }
        FsmReducer y = ring();
        due("maximal(0) of the ring", y.maximal(0), 1);
        due("maximal(1) of the ring", y.maximal(1), 2);
        due("maximal(2) of the ring", y.maximal(2), 4);
        y.set(2, 0, 0);
        due("maximal(0) of the cut ring", y.maximal(0), 5);
        due("maximal(1) of the cut ring", y.maximal(1), 6);
        due("maximal(2) of the cut ring", y.maximal(2), -1);
    }

    private static void implied() {
        promise = "promise 11";
        FsmReducer x = chain();
        for (int set = 1; set <= 31; set++) {
            due("implied(" + set + ", 0)", x.implied(set, 0), 0);
            due("implied(" + set + ", 1)", x.implied(set, 1), set >> 2 & 3);
        }
        x.set(4, 1, e(1, 1));
        due("implied(16, 1)", x.implied(16, 1), 2);
        due("implied(24, 1)", x.implied(24, 1), 2);
        due("implied(31, 1)", x.implied(31, 1), 3);
        x.set(0, 0, e(4, 0));
        due("implied(1, 0)", x.implied(1, 0), 16);
        due("implied(31, 0)", x.implied(31, 0), 16);
        due("implied(0, 0)", x.implied(0, 0), -1);
        due("implied(32, 0)", x.implied(32, 0), -1);
        due("implied(-1, 0)", x.implied(-1, 0), -1);
        due("implied(0, 2)", x.implied(0, 2), -1);
        due("implied(1, 2)", x.implied(1, 2), -2);
        due("implied(1, -1)", x.implied(1, -1), -2);
        due("implied(4, 0) of two states", new FsmReducer(2).implied(4, 0), -1);
        for (int far : FAR) {
            due("implied(far, 0)", x.implied(far, 0), -1);
            due("implied(1, far)", x.implied(1, far), -2);
        }
    }

    private static void coverSize() {
        promise = "promise 12";
        for (int n = 2; n <= 5; n++) {
            due("coverSize() of an open machine", new FsmReducer(n).coverSize(), 1);
        }
        due("coverSize() of the chain", chain().coverSize(), 2);
        FsmReducer x = ring();
        due("coverSize() of the ring", x.coverSize(), 3);
        x.set(2, 0, 0);
        due("coverSize() of the cut ring", x.coverSize(), 2);
        x.set(0, 1, 0);
        due("coverSize() of no split", x.coverSize(), 1);
        FsmReducer two = new FsmReducer(2);
        two.set(0, 1, e(0, 0));
        two.set(1, 1, e(0, 1));
        due("coverSize() of two split states", two.coverSize(), 2);
    }

    private static void coverSet() {
        promise = "promise 13";
        // no two of {0, 1} and of {2, 3} together; a set with 2 needs 0, one with 3 needs 1
        FsmReducer x = chain();
        due("coverSet(0) of the chain", x.coverSet(0), 5);
        due("coverSet(1) of the chain", x.coverSet(1), 26);
        due("coverSet(2) of the chain", x.coverSet(2), -1);
        due("coverSet(-1) of the chain", x.coverSet(-1), -1);
        for (int far : FAR) {
            due("coverSet(far)", x.coverSet(far), -1);
        }
        FsmReducer y = ring();
        due("coverSet(0) of the ring", y.coverSet(0), 1);
        due("coverSet(1) of the ring", y.coverSet(1), 2);
        due("coverSet(2) of the ring", y.coverSet(2), 4);
        due("coverSet(3) of the ring", y.coverSet(3), -1);
        y.set(2, 0, 0);
        due("coverSet(0) of the cut ring", y.coverSet(0), 1);
        due("coverSet(1) of the cut ring", y.coverSet(1), 6);
        due("coverSet(2) of the cut ring", y.coverSet(2), -1);
        // all five against each other: outputs 00, 01, 10, 11, and 4 is like 0 but leads to 1, not 0
        FsmReducer z = new FsmReducer(5);
        for (int s = 0; s < 5; s++) {
            z.set(s, 0, e(s == 4 ? 1 : 0, s & 1));
            z.set(s, 1, e(0, s >> 1 & 1));
        }
        due("coverSize() of five", z.coverSize(), 5);
        for (int i = 0; i < 5; i++) {
            due("coverSet(" + i + ") of five", z.coverSet(i), 1 << i);
        }
        due("coverSet(5) of five", z.coverSet(5), -1);
    }

    private static void coverWithoutMaximalSets() {
        promise = "promise 13, closed lists";
        // 0 and 1 are compatible but lead to 2 and 3, which lead to 0 and 2; 1 and 3 differ
        FsmReducer x = new FsmReducer(4);
        x.set(0, 0, e(2, NONE));
        x.set(1, 0, e(3, 0));
        x.set(2, 0, e(0, NONE));
        x.set(3, 0, e(2, 1));
        due("maximals()", x.maximals(), 2);
        due("maximal(0)", x.maximal(0), 7);
        due("maximal(1)", x.maximal(1), 13);
        due("isCover(7, 13, 0)", x.isCover(7, 13, 0), 1);
        due("isCover(2, 13, 0)", x.isCover(2, 13, 0), 1);
        due("isCover(7, 8, 0), 7 leads to 13", x.isCover(7, 8, 0), 0);
        due("isCover(3, 12, 0), 12 leads to 5", x.isCover(3, 12, 0), 0);
        due("coverSize()", x.coverSize(), 2);
        due("coverSet(0)", x.coverSet(0), 2);
        due("coverSet(1)", x.coverSet(1), 13);
    }

    private static void isCover() {
        promise = "promise 14";
        FsmReducer x = ring();
        due("isCover(1, 2, 4)", x.isCover(1, 2, 4), 1);
        due("isCover(4, 2, 1)", x.isCover(4, 2, 1), 1);
        due("isCover(2, 4, 1)", x.isCover(2, 4, 1), 1);
        due("isCover(1, 2, 0), 2 is missing", x.isCover(1, 2, 0), 0);
        due("isCover(7, 0, 0), not compatible", x.isCover(7, 0, 0), 0);
        x.set(2, 0, 0);
        due("isCover(5, 6, 0)", x.isCover(5, 6, 0), 1);
        due("isCover(6, 0, 5)", x.isCover(6, 0, 5), 1);
        due("isCover(0, 6, 1)", x.isCover(0, 6, 1), 1);
        due("isCover(6, 1, 6)", x.isCover(6, 1, 6), 1);
        due("isCover(1, 1, 6)", x.isCover(1, 1, 6), 1);
        due("isCover(5, 6, 3), 3 is not compatible", x.isCover(5, 6, 3), 0);
        due("isCover(5, 5, 5)", x.isCover(5, 5, 5), 0);
        x.set(0, 1, 0);
        due("isCover(7, 0, 0), no split", x.isCover(7, 0, 0), 1);
        due("isCover(0, 7, 0), no split", x.isCover(0, 7, 0), 1);
        due("isCover(0, 0, 7), no split", x.isCover(0, 0, 7), 1);
        due("isCover(7, 7, 7), no split", x.isCover(7, 7, 7), 1);
        due("isCover(3, 4, 0), 3 leads to 6", x.isCover(3, 4, 0), 0);
        due("isCover(3, 4, 6)", x.isCover(3, 4, 6), 1);
        due("isCover(0, 0, 0)", x.isCover(0, 0, 0), -1);
        due("isCover(8, 7, 7)", x.isCover(8, 7, 7), -1);
        due("isCover(7, 8, 7)", x.isCover(7, 8, 7), -1);
        due("isCover(7, 7, 8)", x.isCover(7, 7, 8), -1);
        due("isCover(-1, 7, 7)", x.isCover(-1, 7, 7), -1);
        due("isCover(7, -1, 7)", x.isCover(7, -1, 7), -1);
        due("isCover(7, 7, -1)", x.isCover(7, 7, -1), -1);
        for (int far : FAR) {
            due("isCover(far, 7, 7)", x.isCover(far, 7, 7), -1);
            due("isCover(7, far, 7)", x.isCover(7, far, 7), -1);
            due("isCover(7, 7, far)", x.isCover(7, 7, far), -1);
        }
    }

    private static FsmReducer walk() {
        FsmReducer x = new FsmReducer(3);
        x.set(0, 0, e(1, 0));
        x.set(0, 1, e(NONE, 1));
        x.set(1, 0, e(2, 1));
        x.set(1, 1, e(0, NONE));
        x.set(2, 0, e(NONE, NONE));
        x.set(2, 1, e(2, 0));
        return x;
    }

    private static void restart() {
        promise = "promise 15";
        FsmReducer x = walk();
        x.restart();
        due("read(0)", x.read(0), 0);
        x.restart();
        due("read(0) after a restart", x.read(0), 0);
        due("read(0) in state 1", x.read(0), 1);
        due("read(0) in state 2", x.read(0), -2);
        due("lost()", x.lost(), 1);
        x.restart();
        due("lost() after a restart", x.lost(), 0);
        due("read(1) after a restart", x.read(1), 1);
        due("entry(0, 0) after restarts", x.entry(0, 0), e(1, 0));
    }

    private static void read() {
        promise = "promise 16";
        FsmReducer x = walk();
        due("read(0) in 0", x.read(0), 0);
        due("read(1) in 1, open output", x.read(1), -2);
        due("lost()", x.lost(), 0);
        due("read(0) in 0 again", x.read(0), 0);
        due("read(2) in 1", x.read(2), -1);
        due("read(-1) in 1", x.read(-1), -1);
        due("read(0) in 1", x.read(0), 1);
        due("read(1) in 2", x.read(1), 0);
        due("read(1) in 2 again", x.read(1), 0);
        due("read(0) in 2, both open", x.read(0), -2);
        due("read(0) lost", x.read(0), -3);
        due("read(1) lost", x.read(1), -3);
        due("read(2) lost", x.read(2), -1);
        for (int far : FAR) {
            due("read(far) lost", x.read(far), -1);
        }
        due("lost() still", x.lost(), 1);
        x.restart();
        due("read(1) in 0, an output and no way", x.read(1), 1);
        due("read(1) then lost", x.read(1), -3);
        FsmReducer open = new FsmReducer(2);
        due("read(0) of an open machine", open.read(0), -2);
        due("read(0) of an open machine, lost", open.read(0), -3);
    }

    private static void lost() {
        promise = "promise 17";
        FsmReducer x = walk();
        due("lost() at first", x.lost(), 0);
        x.read(0);
        due("lost() in 1", x.lost(), 0);
        x.read(7);
        due("lost() after a refused read", x.lost(), 0);
        x.read(1);
        due("lost() back in 0", x.lost(), 0);
        x.read(1);
        due("lost() gone", x.lost(), 1);
        x.read(0);
        due("lost() for good", x.lost(), 1);
        x.set(0, 1, e(0, 1));
        due("lost() after a set", x.lost(), 0);
    }

    private static void questionsChangeNothing() {
        promise = "questions change nothing";
        FsmReducer x = walk();
        x.read(0);
        for (int round = 0; round < 2; round++) {
            due("states()", x.states(), 3);
            due("entry(1, 0)", x.entry(1, 0), e(2, 1));
            due("compatible(0, 1)", x.compatible(0, 1), 0);
            due("splitLength(0, 2)", x.splitLength(0, 2), 1);
            due("splitWord(0, 2)", x.splitWord(0, 2), 1);
            due("compatibleSet(6), 11 splits", x.compatibleSet(6), 0);
            due("maximals()", x.maximals(), 3);
            due("maximal(1)", x.maximal(1), 2);
            due("implied(6, 1)", x.implied(6, 1), 5);
            due("isCover(1, 6, 0)", x.isCover(1, 6, 0), 0);
            due("isCover(1, 2, 4)", x.isCover(1, 2, 4), 1);
            due("coverSize()", x.coverSize(), 3);
            due("coverSet(0)", x.coverSet(0), 1);
            due("coverSet(2)", x.coverSet(2), 4);
            due("lost()", x.lost(), 0);
        }
        due("read(0), still in 1", x.read(0), 1);
    }

    private static void objectsAreApart() {
        promise = "objects are apart";
        FsmReducer x = new FsmReducer(3);
        FsmReducer y = new FsmReducer(3);
        x.set(0, 0, e(1, 1));
        x.read(1);
        due("entry(0, 0) of the other", y.entry(0, 0), 0);
        due("lost() of the other", y.lost(), 0);
    }
}
