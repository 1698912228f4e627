/**
 * The smallest machine that can stand in for an incompletely specified one.
 *
 * Everything that the questions ask about is worked out anew after each accepted set, so that a
 * question only looks things up. A set of states is an int with bit s for state s.
 */
public final class FsmReducer {
    public static final int NONE = -1;

    private static final int LEAST_STATES = 2;
    private static final int MOST_STATES = 5;
    private static final int INPUTS = 2;
    private static final int ENTRIES = MOST_STATES * INPUTS;
    private static final int PAIRS = MOST_STATES * MOST_STATES;
    private static final int SETS = 1 << MOST_STATES;
    private static final int SETS_WITH_INPUTS = SETS * INPUTS;

    /** What an output can be: 0, 1 or NONE. */
    private static final int OUTPUTS = 3;

    /** A shortest splitting word never meets the same two states twice, and there are 10 such twos. */
    private static final int LONGEST_WORD = 10;

    /** The last place of a list of sets; no best cover needs more places than there are states. */
    private static final int LAST = MOST_STATES - 1;

    /** How many lists of one to five of the 31 sets there are: 31 + 465 + 4495 + 31465 + 169911. */
    private static final int LISTS = 206367;

    private final int stateCount;
    private final int allStates;

    private final int[] entries = new int[ENTRIES];

    /** For two states: the length of the shortest word that splits them, 0 if none does. */
    private final int[] splitLengths = new int[PAIRS];
    private final int[] splitWords = new int[PAIRS];

    private final int[] impliedSets = new int[SETS_WITH_INPUTS];
    private final boolean[] isCompatible = new boolean[SETS];

    /** The compatible sets in rising order from place 1 on; place 0 holds 0, which means no set. */
    private final int[] candidates = new int[SETS];
    private int candidateCount;

    private final int[] maximalSets = new int[SETS];
    private int maximalCount;

    /** Places in candidates: zeros first, then strictly rising. */
    private final int[] chosen = new int[MOST_STATES];
    /** The sets at the chosen places, so the best cover stands at the end, behind zeros. */
    private final int[] cover = new int[MOST_STATES];
    private int coverCount;

    /** The list that isCover is asked about; it means nothing between calls. */
    private final int[] asked = new int[MOST_STATES];

    /** The state of the run, NONE if it is lost. */
    private int runState;

    public FsmReducer(int states) {
        stateCount = states < LEAST_STATES ? LEAST_STATES : states > MOST_STATES ? MOST_STATES : states;
        allStates = (1 << stateCount) - 1;
        workOut();
    }

    public int states() {
        return stateCount;
    }

    public int set(int s, int input, int entry) {
        if (!isState(s)) {
            return -1;
        }
        if (!isInput(input)) {
            return -2;
        }
        if (entry < 0 || entry >= OUTPUTS * (stateCount + 1)) {
            return -3;
        }
        int before = entries[s * INPUTS + input];
        entries[s * INPUTS + input] = entry;
        workOut();
        runState = 0;
        return before;
    }

    public int entry(int s, int input) {
        if (!isState(s)) {
            return -1;
        }
        if (!isInput(input)) {
            return -2;
        }
        return entries[s * INPUTS + input];
    }

    public int compatible(int s, int t) {
        if (!isState(s) || !isState(t)) {
            return -1;
        }
        return splitLengths[s * MOST_STATES + t] == 0 ? 1 : 0;
    }

    public int splitLength(int s, int t) {
        if (!isState(s) || !isState(t)) {
            return -1;
        }
        int length = splitLengths[s * MOST_STATES + t];
        return length == 0 ? -2 : length;
    }

    public int splitWord(int s, int t) {
        if (!isState(s) || !isState(t)) {
            return -1;
        }
        int pair = s * MOST_STATES + t;
        return splitLengths[pair] == 0 ? -2 : splitWords[pair];
    }

    public int compatibleSet(int set) {
        if (!isSet(set)) {
            return -1;
        }
        return isCompatible[set] ? 1 : 0;
    }

    public int maximals() {
        return maximalCount;
    }

    public int maximal(int i) {
        if (i < 0 || i >= maximalCount) {
            return -1;
        }
        return maximalSets[i];
    }

    public int implied(int set, int input) {
        if (!isSet(set)) {
            return -1;
        }
        if (!isInput(input)) {
            return -2;
        }
        return impliedSets[set * INPUTS + input];
    }

    public int coverSize() {
        return coverCount;
    }

    public int coverSet(int i) {
        if (i < 0 || i >= coverCount) {
            return -1;
        }
        return cover[MOST_STATES - coverCount + i];
    }

    public int isCover(int a, int b, int c) {
        if (!isSetOrZero(a) || !isSetOrZero(b) || !isSetOrZero(c)) {
            return -1;
        }
        if (a == 0 && b == 0 && c == 0) {
            return -1;
        }
        // Whether a list is a cover hangs neither on its order nor on a set that stands twice.
        asked[0] = a;
        asked[1] = b;
        asked[2] = c;
        return makesCover(asked) ? 1 : 0;
    }

    public void restart() {
        runState = 0;
    }

    public int read(int input) {
        if (!isInput(input)) {
            return -1;
        }
        if (runState == NONE) {
            return -3;
        }
        int output = outputOf(runState, input);
        runState = nextOf(runState, input);
        return output == NONE ? -2 : output;
    }

    public int lost() {
        return runState == NONE ? 1 : 0;
    }

    private boolean isState(int s) {
        return s >= 0 && s < stateCount;
    }

    private static boolean isInput(int input) {
        return input == 0 || input == 1;
    }

    private boolean isSet(int set) {
        return set >= 1 && set <= allStates;
    }

    private boolean isSetOrZero(int set) {
        return set >= 0 && set <= allStates;
    }

    private int nextOf(int s, int input) {
        return entries[s * INPUTS + input] / OUTPUTS - 1;
    }

    private int outputOf(int s, int input) {
        return entries[s * INPUTS + input] % OUTPUTS - 1;
    }

    private void workOut() {
        findSplits();
        findImpliedSets();
        findCompatibleSets();
        findMaximalSets();
        findBestCover();
    }

    private void findSplits() {
        for (int pair = 0; pair < PAIRS; pair++) {
            splitLengths[pair] = 0;
            splitWords[pair] = 0;
        }
        for (int length = 1; length <= LONGEST_WORD; length++) {
            for (int s = 0; s < stateCount; s++) {
                for (int t = 0; t < stateCount; t++) {
                    findSplitOfLength(s, t, length);
                }
            }
        }
    }

    /** Input 0 is tried before input 1, as the word is to be the least. */
    private void findSplitOfLength(int s, int t, int length) {
        int pair = s * MOST_STATES + t;
        for (int input = 0; input < INPUTS && splitLengths[pair] == 0; input++) {
            if (length == 1) {
                if (outputsDiffer(s, t, input)) {
                    splitLengths[pair] = 1;
                    splitWords[pair] = input;
                }
            } else {
                int after = pairAfter(s, t, input);
                if (after != NONE && splitLengths[after] == length - 1) {
                    splitLengths[pair] = length;
                    splitWords[pair] = (input << (length - 1)) + splitWords[after];
                }
            }
        }
    }

    private boolean outputsDiffer(int s, int t, int input) {
        int one = outputOf(s, input);
        int other = outputOf(t, input);
        return one != NONE && other != NONE && one != other;
    }

    private int pairAfter(int s, int t, int input) {
        int one = nextOf(s, input);
        int other = nextOf(t, input);
        return one == NONE || other == NONE ? NONE : one * MOST_STATES + other;
    }

    private void findImpliedSets() {
        for (int set = 1; set <= allStates; set++) {
            for (int input = 0; input < INPUTS; input++) {
                impliedSets[set * INPUTS + input] = nextStatesOf(set, input);
            }
        }
    }

    private int nextStatesOf(int set, int input) {
        int reached = 0;
        for (int s = 0; s < stateCount; s++) {
            int next = nextOf(s, input);
            if ((set >> s & 1) == 1 && next != NONE) {
                reached |= 1 << next;
            }
        }
        return reached;
    }

    private void findCompatibleSets() {
        // A place without a set in a list holds 0, and that is never a reason against a cover.
        isCompatible[0] = true;
        candidateCount = 0;
        for (int set = 1; set <= allStates; set++) {
            isCompatible[set] = noTwoSplit(set);
            if (isCompatible[set]) {
                candidateCount++;
                candidates[candidateCount] = set;
            }
        }
    }

    private boolean noTwoSplit(int set) {
        for (int s = 0; s < stateCount; s++) {
            for (int t = 0; t < s; t++) {
                boolean bothIn = (set >> s & 1) == 1 && (set >> t & 1) == 1;
                if (bothIn && splitLengths[s * MOST_STATES + t] != 0) {
                    return false;
                }
            }
        }
        return true;
    }

    private void findMaximalSets() {
        maximalCount = 0;
        for (int set = 1; set <= allStates; set++) {
            if (isCompatible[set] && !canGrow(set)) {
                maximalSets[maximalCount] = set;
                maximalCount++;
            }
        }
    }

    /** Every part of a compatible set is compatible, so growing by one state is enough to try. */
    private boolean canGrow(int set) {
        for (int s = 0; s < stateCount; s++) {
            int grown = set | 1 << s;
            if (grown != set && isCompatible[grown]) {
                return true;
            }
        }
        return false;
    }

    /**
     * With the zeros in front, shorter lists come before longer ones and those of one length in the
     * document's order, so the first cover met is the best one. The search always ends with a cover,
     * because the list of all sets with one member is one.
     */
    private void findBestCover() {
        for (int place = 0; place <= LAST; place++) {
            chosen[place] = 0;
            cover[place] = 0;
        }
        boolean found = false;
        for (int turn = 0; turn < LISTS && !found; turn++) {
            takeNextList();
            found = makesCover(cover);
        }
        coverCount = 0;
        for (int place = 0; place <= LAST; place++) {
            if (cover[place] != 0) {
                coverCount++;
            }
        }
    }

    /** Raises the last place that leaves room for the places behind it, and these follow closely. */
    private void takeNextList() {
        for (int place = LAST; place >= 0; place--) {
            if (chosen[place] < candidateCount - (LAST - place)) {
                int raised = chosen[place] + 1;
                for (int later = place; later <= LAST; later++) {
                    chosen[later] = raised + later - place;
                    cover[later] = candidates[chosen[later]];
                }
                return;
            }
        }
    }

    /** Zeros in the list stand for no set. */
    private boolean makesCover(int[] list) {
        int covered = 0;
        for (int i = 0; i < MOST_STATES; i++) {
            if (!isCompatible[list[i]]) {
                return false;
            }
            covered |= list[i];
        }
        if (covered != allStates) {
            return false;
        }
        for (int i = 0; i < MOST_STATES; i++) {
            for (int input = 0; input < INPUTS; input++) {
                int reached = impliedSets[list[i] * INPUTS + input];
                if (!isPartOfOne(reached, list)) {
                    return false;
                }
            }
        }
        return true;
    }

    /** The empty set is part of every set. */
    private static boolean isPartOfOne(int part, int[] list) {
        for (int i = 0; i < MOST_STATES; i++) {
            if ((part & ~list[i]) == 0) {
                return true;
            }
        }
        return false;
    }
}
