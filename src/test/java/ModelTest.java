import java.util.ArrayList;
import java.util.List;

/**
 * Every machine of two states, and many greater ones, against a slow model that follows the
 * document's terms word by word: it tries all words, all sets and all lists of sets.
 */
public final class ModelTest {
    private static final int NONE = FsmReducer.NONE;
    private static final int MACHINES = 3000;
    /** Four entries of 0 .. 8 each. */
    private static final int MACHINES_OF_TWO = 9 * 9 * 9 * 9;
    /** One more than the number of unordered twos of five states, so longer ones would be seen. */
    private static final int LONGEST = 11;

    private static int wrong = 0;
    private static int number = 0;
    private static long seed = 20261115L;

    private static int n;
    private static int[][] next;
    private static int[][] output;
    private static int state;
    private static int[][] length;
    private static int[][] word;

    public static void main(String[] args) {
        for (number = 0; number < MACHINES && wrong < 20; number++) {
            tryMachine();
        }
        for (number = 0; number < MACHINES_OF_TWO && wrong < 20; number++) {
            tryMachineOfTwo();
        }
        System.out.println(wrong == 0 ? "all machines are as the model" : wrong + " answers are not as due");
        if (wrong != 0) {
            System.exit(1);
        }
    }

    /** A fixed rule instead of a random source, so that each run tries the same machines. */
    private static int pick(int bound) {
        seed = seed * 6364136223846793005L + 1442695040888963407L;
        return (int) ((seed >>> 33) % bound);
    }

    private static void due(String call, long got, long want) {
        if (got != want) {
            wrong++;
            System.out.println("machine " + number + " of " + n + " states: " + call + " answered " + got + ", due is " + want);
        }
    }

    private static FsmReducer newMachine(int states) {
        n = states;
        next = new int[n][2];
        output = new int[n][2];
        for (int s = 0; s < n; s++) {
            next[s] = new int[] {NONE, NONE};
            output[s] = new int[] {NONE, NONE};
        }
        state = 0;
        return new FsmReducer(n);
    }

    /** The digits of the number in base 9 are the entries. */
    private static void tryMachineOfTwo() {
        FsmReducer x = newMachine(2);
        int digits = number;
        for (int place = 0; place < 4; place++) {
            trySet(x, place / 2, place % 2, digits % 9 / 3 - 1, digits % 3 - 1);
            digits /= 9;
        }
        askAll(x);
        tryRun(x, 8);
    }

    private static void tryMachine() {
        FsmReducer x = newMachine(number % 3 == 0 ? 2 + number / 3 % 4 : 5);
        int openNext = pick(11);
        int openOutput = pick(11);
        int sets = 2 * n + pick(10);
        for (int k = 0; k < sets; k++) {
            // the first ones go through all places, so that full machines come up too
            int s = k < 2 * n ? k / 2 : pick(n);
            int input = k < 2 * n ? k % 2 : pick(2);
            int to = pick(10) < openNext ? NONE : pick(n);
            int out = pick(10) < openOutput ? NONE : pick(2);
            trySet(x, s, input, to, out);
            if (k % 4 == 3) {
                tryRun(x, 2);
            }
        }
        askAll(x);
        tryRun(x, 12);
    }

    private static void trySet(FsmReducer x, int s, int input, int to, int out) {
        int before = 3 * (next[s][input] + 1) + output[s][input] + 1;
        next[s][input] = to;
        output[s][input] = out;
        state = 0;
        int entry = 3 * (to + 1) + out + 1;
        due("set(" + s + ", " + input + ", " + entry + ")", x.set(s, input, entry), before);
    }

    private static void tryRun(FsmReducer x, int steps) {
        for (int k = 0; k < steps; k++) {
            int input = pick(16) == 0 ? pick(5) - 1 : pick(2);
            due("read(" + input + ")", x.read(input), readInModel(input));
            due("lost()", x.lost(), state == NONE ? 1 : 0);
            if (pick(12) == 0) {
                x.restart();
                state = 0;
            }
        }
    }

    private static int readInModel(int input) {
        if (input != 0 && input != 1) {
            return -1;
        }
        if (state == NONE) {
            return -3;
        }
        int answer = output[state][input] == NONE ? -2 : output[state][input];
        state = next[state][input];
        return answer;
    }

    private static void askAll(FsmReducer x) {
        findWords();
        for (int s = 0; s < n; s++) {
            for (int t = 0; t < n; t++) {
                String of = "(" + s + ", " + t + ")";
                due("compatible" + of, x.compatible(s, t), length[s][t] == 0 ? 1 : 0);
                due("splitLength" + of, x.splitLength(s, t), length[s][t] == 0 ? -2 : length[s][t]);
                due("splitWord" + of, x.splitWord(s, t), length[s][t] == 0 ? -2 : word[s][t]);
            }
        }
        List<Integer> maximal = new ArrayList<>();
        for (int set = 1; set < 1 << n; set++) {
            due("compatibleSet(" + set + ")", x.compatibleSet(set), compatible(set) ? 1 : 0);
            due("implied(" + set + ", 0)", x.implied(set, 0), implied(set, 0));
            due("implied(" + set + ", 1)", x.implied(set, 1), implied(set, 1));
            if (isMaximal(set)) {
                maximal.add(set);
            }
        }
        due("maximals()", x.maximals(), maximal.size());
        for (int i = -1; i <= maximal.size(); i++) {
            boolean in = i >= 0 && i < maximal.size();
            due("maximal(" + i + ")", x.maximal(i), in ? maximal.get(i) : -1);
        }
        askCovers(x, maximal);
    }

    private static void askCovers(FsmReducer x, List<Integer> maximal) {
        List<Integer> best = null;
        for (int size = 1; best == null; size++) {
            best = firstCover(new ArrayList<>(), size);
        }
        due("coverSize()", x.coverSize(), best.size());
        for (int i = -1; i <= best.size(); i++) {
            boolean in = i >= 0 && i < best.size();
            due("coverSet(" + i + ")", x.coverSet(i), in ? best.get(i) : -1);
        }
        if (best.size() <= 3) {
            int b = best.size() > 1 ? best.get(1) : 0;
            int c = best.size() > 2 ? best.get(2) : 0;
            due("isCover of the best cover", x.isCover(c, best.get(0), b), 1);
        }
        for (int k = 0; k < 30; k++) {
            askIsCover(x, pick(1 << n), pick(1 << n), pick(1 << n));
        }
        for (int k = 0; k < 30; k++) {
            askIsCover(x, anyOf(maximal), anyOf(maximal), anyOf(maximal) & pick(1 << n));
        }
    }

    private static int anyOf(List<Integer> sets) {
        return sets.get(pick(sets.size()));
    }

    private static void askIsCover(FsmReducer x, int a, int b, int c) {
        List<Integer> list = new ArrayList<>();
        for (int set = 1; set < 1 << n; set++) {
            if (set == a || set == b || set == c) {
                list.add(set);
            }
        }
        int want = list.isEmpty() ? -1 : isCover(list) ? 1 : 0;
        due("isCover(" + a + ", " + b + ", " + c + ")", x.isCover(a, b, c), want);
    }

    private static void findWords() {
        length = new int[n][n];
        word = new int[n][n];
        for (int s = 0; s < n; s++) {
            for (int t = 0; t < n; t++) {
                for (int l = 1; l <= LONGEST && length[s][t] == 0; l++) {
                    for (int w = 0; w < 1 << l && length[s][t] == 0; w++) {
                        if (splits(s, t, l, w)) {
                            length[s][t] = l;
                            word[s][t] = w;
                        }
                    }
                }
            }
        }
    }

    private static boolean splits(int s, int t, int l, int w) {
        for (int k = l - 1; k > 0; k--) {
            s = next[s][w >> k & 1];
            t = next[t][w >> k & 1];
            if (s == NONE || t == NONE) {
                return false;
            }
        }
        int one = output[s][w & 1];
        int other = output[t][w & 1];
        return one != NONE && other != NONE && one != other;
    }

    private static boolean has(int set, int s) {
        return (set & 1 << s) != 0;
    }

    private static boolean compatible(int set) {
        for (int s = 0; s < n; s++) {
            for (int t = 0; t < n; t++) {
                if (has(set, s) && has(set, t) && length[s][t] != 0) {
                    return false;
                }
            }
        }
        return true;
    }

    private static boolean isMaximal(int set) {
        for (int more = 1; more < 1 << n; more++) {
            if (more != set && (more & set) == set && compatible(more)) {
                return false;
            }
        }
        return compatible(set);
    }

    private static int implied(int set, int input) {
        int reached = 0;
        for (int s = 0; s < n; s++) {
            if (has(set, s) && next[s][input] != NONE) {
                reached |= 1 << next[s][input];
            }
        }
        return reached;
    }

    private static List<Integer> firstCover(List<Integer> begun, int size) {
        if (begun.size() == size) {
            return isCover(begun) ? begun : null;
        }
        int from = begun.isEmpty() ? 1 : begun.get(begun.size() - 1) + 1;
        for (int set = from; set < 1 << n; set++) {
            if (compatible(set)) {
                List<Integer> longer = new ArrayList<>(begun);
                longer.add(set);
                List<Integer> found = firstCover(longer, size);
                if (found != null) {
                    return found;
                }
            }
        }
        return null;
    }

    private static boolean isCover(List<Integer> list) {
        int covered = 0;
        for (int set : list) {
            if (!compatible(set)) {
                return false;
            }
            covered |= set;
        }
        if (covered != (1 << n) - 1) {
            return false;
        }
        for (int set : list) {
            for (int input = 0; input < 2; input++) {
                int reached = implied(set, input);
                if (reached != 0 && list.stream().noneMatch(c -> (reached & c) == reached)) {
                    return false;
                }
            }
        }
        return true;
    }
}
