import java.util.ArrayList;
import java.util.Arrays;
import java.util.List;
import java.util.function.Consumer;
import java.util.function.ToIntFunction;

/**
 * The sentences of the document that bind several promises together, each on many machines and from
 * every place to which their runs can come: what no call may change, in which order the tests are
 * made, and what set, restart and read change, or leave as it was, for all that is asked later.
 *
 * What is due is told by a twin, an object made new that went another way to the same machine, and,
 * for the run, by the machine's own table. No object whose answers are looked at gets more than 512
 * calls.
 */
public final class TogetherTest {
    private static final int NONE = FsmReducer.NONE;
    private static final int MIN = Integer.MIN_VALUE;
    private static final int MAX = Integer.MAX_VALUE;
    private static final int PICKED_MACHINES = 6;
    private static final int READS = 5;
    /** So many questions an object gets at most, as it gets only 512 calls. */
    private static final int MOST_QUESTIONS = 400;

    private static final int[] ARGUMENTS = {MIN, MIN + 1, -65536, -32, -3, -2, -1, 0, 1, 2, 3, 4, 5, 6, 8,
        15, 16, 17, 18, 31, 32, 33, 64, 65536, 1 << 30, MAX - 1, MAX};

    private static int wrong = 0;
    private static String sentence = "";
    private static long seed = 20261116L;

    public static void main(String[] args) {
        List<Machine> machines = machines();
        for (Machine m : machines) {
            newObject(m);
            questionsChangeNothing(m);
            refusedCallsChangeNothing(m);
            testsInTheirOrder(m);
            setChangesOneEntry(m);
            setAndSetBack(m);
            restartChangesTheRunAlone(m);
            readChangesTheRunAlone(m);
            twosAndSetsAgree(m);
            maximalsAndSetsAgree(m);
            coverAndSetsAgree(m);
            coverAndIsCoverAgree(m);
        }
        objectsAreApart(machines);
        noCallThrows();
        System.out.println(wrong == 0 ? "all sentences hold together" : wrong + " answers are not as due");
        if (wrong != 0) {
            System.exit(1);
        }
    }

    private static void due(Machine m, String call, int got, int want) {
        if (got != want) {
            wrong++;
            System.out.println(sentence + ": on " + m + ", " + call + " answered " + got + ", due is " + want);
        }
    }

    private static String of(int... values) {
        String shown = Arrays.toString(values);
        return "(" + shown.substring(1, shown.length() - 1) + ")";
    }

    /** A fixed rule instead of a random source, so that each run tries the same machines. */
    private static int pick(int bound) {
        seed = seed * 6364136223846793005L + 1442695040888963407L;
        return (int) ((seed >>> 33) % bound);
    }

    // ---- Machines, their tables and the places of their runs

    /** The entry of state s for an input stands at place 2 * s + input. */
    private record Machine(int n, int[] entries) {
        int all() {
            return (1 << n) - 1;
        }

        int greatestEntry() {
            return 3 * (n + 1) - 1;
        }

        int next(int s, int input) {
            return entries[2 * s + input] / 3 - 1;
        }

        int output(int s, int input) {
            return entries[2 * s + input] % 3 - 1;
        }

        int placeAfter(int place, int input) {
            return place == NONE ? NONE : next(place, input);
        }

        Machine with(int place, int entry) {
            int[] changed = entries.clone();
            changed[place] = entry;
            return new Machine(n, changed);
        }

        @Override
        public String toString() {
            return n + " states " + Arrays.toString(entries);
        }
    }

    private static List<Machine> machines() {
        List<Machine> machines = new ArrayList<>();
        for (int n = 2; n <= 5; n++) {
            machines.add(new Machine(n, new int[2 * n]));
            machines.add(walk(n));
            for (int k = 0; k < PICKED_MACHINES; k++) {
                machines.add(picked(n, k));
            }
        }
        return machines;
    }

    /** Up for input 0, round for input 1; no two states have the same two outputs. */
    private static Machine walk(int n) {
        int[] entries = new int[2 * n];
        for (int s = 0; s < n; s++) {
            int up = s == n - 1 ? NONE : s + 1;
            entries[2 * s] = 3 * (up + 1) + s % 3;
            entries[2 * s + 1] = 3 * ((s + 2) % n + 1) + s / 3;
        }
        return new Machine(n, entries);
    }

    /** Of ten next states, openness are open, and of ten outputs as many. */
    private static Machine picked(int n, int openness) {
        int[] entries = new int[2 * n];
        for (int place = 0; place < 2 * n; place++) {
            int next = pick(10) < openness ? NONE : pick(n);
            int output = pick(10) < openness ? NONE : pick(2);
            entries[place] = 3 * (next + 1) + output + 1;
        }
        return new Machine(n, entries);
    }

    /** A way is the inputs that bring a run from the start to the place. */
    private record Way(int place, int... inputs) {
        Way and(int input, int to) {
            int[] longer = Arrays.copyOf(inputs, inputs.length + 1);
            longer[inputs.length] = input;
            return new Way(to, longer);
        }
    }

    private static final Way START = new Way(0);

    /** One shortest way to each place that the run can come to, lost among them. */
    private static List<Way> ways(Machine m) {
        List<Way> ways = new ArrayList<>(List.of(START));
        for (int k = 0; k < ways.size(); k++) {
            Way way = ways.get(k);
            for (int input = 0; input < 2; input++) {
                int to = m.placeAfter(way.place(), input);
                if (ways.stream().noneMatch(other -> other.place() == to)) {
                    ways.add(way.and(input, to));
                }
            }
        }
        return ways;
    }

    private static FsmReducer madeFromTheFirst(Machine m) {
        FsmReducer x = new FsmReducer(m.n());
        for (int place = 0; place < 2 * m.n(); place++) {
            x.set(place / 2, place % 2, m.entries()[place]);
        }
        return x;
    }

    private static FsmReducer madeFromTheLast(Machine m) {
        FsmReducer x = new FsmReducer(m.n());
        for (int place = 2 * m.n() - 1; place >= 0; place--) {
            x.set(place / 2, place % 2, m.entries()[place]);
        }
        return x;
    }

    private static FsmReducer at(Machine m, Way way) {
        FsmReducer x = madeFromTheFirst(m);
        for (int input : way.inputs()) {
            x.read(input);
        }
        return x;
    }

    // ---- All that can be asked

    private record Question(String name, ToIntFunction<FsmReducer> call) {
    }

    /** Every question with all its right arguments, but for isCover, which would be too many. */
    private static List<Question> questions(int n) {
        List<Question> all = new ArrayList<>();
        all.add(new Question("states()", FsmReducer::states));
        for (int s = 0; s < n; s++) {
            int one = s;
            all.add(new Question("entry" + of(s, 0), x -> x.entry(one, 0)));
            all.add(new Question("entry" + of(s, 1), x -> x.entry(one, 1)));
            for (int t = 0; t < n; t++) {
                int other = t;
                all.add(new Question("compatible" + of(s, t), x -> x.compatible(one, other)));
                all.add(new Question("splitLength" + of(s, t), x -> x.splitLength(one, other)));
                all.add(new Question("splitWord" + of(s, t), x -> x.splitWord(one, other)));
            }
        }
        addQuestionsOfSets(all, (1 << n) - 1);
        addQuestionsOfLists(all);
        return all;
    }

    private static void addQuestionsOfSets(List<Question> all, int whole) {
        for (int k = 1; k <= whole; k++) {
            int set = k;
            all.add(new Question("compatibleSet" + of(set), x -> x.compatibleSet(set)));
            all.add(new Question("implied" + of(set, 0), x -> x.implied(set, 0)));
            all.add(new Question("implied" + of(set, 1), x -> x.implied(set, 1)));
            all.add(new Question("isCover" + of(set, 0, whole - set), x -> x.isCover(set, 0, whole - set)));
        }
    }

    /** No more than six sets are maximal, and no more than five are in the best cover. */
    private static void addQuestionsOfLists(List<Question> all) {
        all.add(new Question("maximals()", FsmReducer::maximals));
        all.add(new Question("coverSize()", FsmReducer::coverSize));
        for (int k = 0; k <= 6; k++) {
            int i = k;
            all.add(new Question("maximal" + of(i), x -> x.maximal(i)));
            all.add(new Question("coverSet" + of(i), x -> x.coverSet(i)));
        }
    }

    private static void askAll(FsmReducer x, int n) {
        for (Question question : questions(n)) {
            question.call().applyAsInt(x);
        }
        x.lost();
    }

    /** All answers are those of the twin, and the run is in the place and reads as the table says. */
    private static void asDue(String after, FsmReducer x, Machine m, int place, int firstInput) {
        List<Question> questions = questions(m.n());
        int[] want = answersOfTwin(m, questions);
        for (int k = 0; k < want.length; k++) {
            Question question = questions.get(k);
            due(m, after + ", " + question.name(), question.call().applyAsInt(x), want[k]);
        }
        runAsDue(after, x, m, place, firstInput);
    }

    /** Asked from the last to the first, so that a question cannot do the same harm on both sides. */
    private static int[] answersOfTwin(Machine m, List<Question> questions) {
        FsmReducer twin = madeFromTheLast(m);
        int[] answers = new int[questions.size()];
        for (int k = questions.size() - 1; k >= 0; k--) {
            answers[k] = questions.get(k).call().applyAsInt(twin);
        }
        return answers;
    }

    private static void runAsDue(String after, FsmReducer x, Machine m, int place, int firstInput) {
        int input = firstInput;
        due(m, after + ", lost()", x.lost(), place == NONE ? 1 : 0);
        for (int k = 0; k < READS; k++) {
            due(m, after + ", in " + place + ", read" + of(input), x.read(input), answerOfRead(m, place, input));
            place = m.placeAfter(place, input);
            due(m, after + ", lost() then", x.lost(), place == NONE ? 1 : 0);
            input = k % 2 == 0 ? input : 1 - input;
        }
    }

    private static int answerOfRead(Machine m, int place, int input) {
        if (place == NONE) {
            return -3;
        }
        return m.output(place, input) == NONE ? -2 : m.output(place, input);
    }

    /** From every place of the run: the calls answer what they like, but nothing is changed. */
    private static void changesNothing(Machine m, String calls, Consumer<FsmReducer> make) {
        for (Way way : ways(m)) {
            for (int firstInput = 0; firstInput < 2; firstInput++) {
                FsmReducer x = at(m, way);
                make.accept(x);
                asDue(calls + " in " + way.place(), x, m, way.place(), firstInput);
            }
        }
    }

    // ---- What no call may change

    private static void newObject(Machine m) {
        sentence = "\"all are NONE at first\", \"at first .. it is in state 0\"";
        Machine open = new Machine(m.n(), new int[2 * m.n()]);
        asDue("new object", new FsmReducer(m.n()), open, 0, 0);
        asDue("new object", new FsmReducer(m.n()), open, 0, 1);
        for (int place = 0; place < 2 * m.n(); place++) {
            due(open, "entry", new FsmReducer(m.n()).entry(place / 2, place % 2), 0);
        }
        sentence = "\"at first, and after every accepted set, it is in state 0\"";
        asDue("all entries set", madeFromTheFirst(m), m, 0, 0);
        asDue("all entries set", madeFromTheFirst(m), m, 0, 1);
    }

    private static void questionsChangeNothing(Machine m) {
        sentence = "\"No question changes anything\"";
        changesNothing(m, "every question", x -> askAll(x, m.n()));
        List<Question> questions = questions(m.n());
        int[] amongAll = answersOfTwin(m, questions);
        for (int k = 0; k < amongAll.length; k++) {
            Question question = questions.get(k);
            FsmReducer x = madeFromTheFirst(m);
            int first = question.call().applyAsInt(x);
            due(m, question.name() + " again", question.call().applyAsInt(x), first);
            due(m, question.name() + " among all questions", amongAll[k], first);
        }
    }

    private static void refusedCallsChangeNothing(Machine m) {
        sentence = "\"A refused call changes nothing\"";
        int n = m.n();
        int[] noStates = {-1, n, MIN, MAX, -n, 32, 256};
        int[] noInputs = {-1, 2, MIN, MAX, 256};
        int[] noEntries = {-1, m.greatestEntry() + 1, MIN, MAX, 256};
        changesNothing(m, "set of no state", x -> {
            for (int s : noStates) {
                due(m, "set" + of(s, 0, 1), x.set(s, 0, 1), -1);
                due(m, "set" + of(s, 1, 0), x.set(s, 1, 0), -1);
            }
        });
        changesNothing(m, "set for no input", x -> {
            for (int input : noInputs) {
                due(m, "set" + of(0, input, 1), x.set(0, input, 1), -2);
                due(m, "set" + of(n - 1, input, 5), x.set(n - 1, input, 5), -2);
            }
        });
        changesNothing(m, "set to no entry", x -> {
            for (int entry : noEntries) {
                due(m, "set" + of(0, 0, entry), x.set(0, 0, entry), -3);
                due(m, "set" + of(n - 1, 1, entry), x.set(n - 1, 1, entry), -3);
            }
        });
        changesNothing(m, "read of no input", x -> {
            for (int input : noInputs) {
                due(m, "read" + of(input), x.read(input), -1);
            }
        });
        refusedQuestionsChangeNothing(m, noStates, noInputs);
        lostRunStaysLost(m);
    }

    private static void refusedQuestionsChangeNothing(Machine m, int[] noStates, int[] noInputs) {
        int[] noSets = {-1, m.all() + 1, MIN, MAX, 64};
        changesNothing(m, "questions of no state and no place", x -> {
            for (int s : noStates) {
                due(m, "entry" + of(s, 0), x.entry(s, 0), -1);
                due(m, "compatible" + of(s, 0), x.compatible(s, 0), -1);
                due(m, "splitLength" + of(0, s), x.splitLength(0, s), -1);
                due(m, "splitWord" + of(s, s), x.splitWord(s, s), -1);
            }
            for (int i : new int[] {-1, 7, MIN, MAX}) {
                due(m, "maximal" + of(i), x.maximal(i), -1);
                due(m, "coverSet" + of(i), x.coverSet(i), -1);
            }
        });
        changesNothing(m, "questions of no set and no input", x -> {
            due(m, "compatibleSet(0)", x.compatibleSet(0), -1);
            due(m, "implied(0, 0)", x.implied(0, 0), -1);
            due(m, "isCover(0, 0, 0)", x.isCover(0, 0, 0), -1);
            for (int set : noSets) {
                due(m, "compatibleSet" + of(set), x.compatibleSet(set), -1);
                due(m, "implied" + of(set, 0), x.implied(set, 0), -1);
                due(m, "isCover" + of(1, set, 1), x.isCover(1, set, 1), -1);
            }
            for (int input : noInputs) {
                due(m, "entry" + of(0, input), x.entry(0, input), -2);
                due(m, "implied" + of(1, input), x.implied(1, input), -2);
            }
        });
    }

    private static void lostRunStaysLost(Machine m) {
        for (Way way : ways(m)) {
            if (way.place() == NONE) {
                for (int input = 0; input < 2; input++) {
                    FsmReducer x = at(m, way);
                    due(m, "read" + of(input) + " of a lost run", x.read(input), -3);
                    asDue("read of a lost run", x, m, NONE, input);
                }
            }
        }
    }

    // ---- The order of the tests

    private static boolean in(int value, int least, int greatest) {
        return value >= least && value <= greatest;
    }

    private static void testsInTheirOrder(Machine m) {
        sentence = "\"In every method the tests are made in the order named\"";
        for (Way way : ways(m)) {
            FsmReducer x = at(m, way);
            testsOfSetInOrder(m, x);
            testsOfQuestionsInOrder(m, x);
            due(m, "read(-1) in " + way.place(), x.read(-1), -1);
            due(m, "read(2) in " + way.place(), x.read(2), -1);
            runAsDue("refused calls", x, m, way.place(), 0);
        }
    }

    private static void testsOfSetInOrder(Machine m, FsmReducer x) {
        int n = m.n();
        for (int s : new int[] {-1, 0, n - 1, n}) {
            for (int input = -1; input <= 2; input++) {
                for (int entry : new int[] {-1, 0, m.greatestEntry(), m.greatestEntry() + 1}) {
                    int want = !in(s, 0, n - 1) ? -1 : !in(input, 0, 1) ? -2 : -3;
                    boolean accepted = want == -3 && in(entry, 0, m.greatestEntry());
                    if (!accepted) {
                        due(m, "set" + of(s, input, entry), x.set(s, input, entry), want);
                    }
                }
            }
        }
    }

    private static void testsOfQuestionsInOrder(Machine m, FsmReducer x) {
        int n = m.n();
        for (int s : new int[] {-1, 0, n - 1, n}) {
            for (int input = -1; input <= 2; input++) {
                int want = !in(s, 0, n - 1) ? -1 : !in(input, 0, 1) ? -2 : m.entries()[2 * s + input];
                due(m, "entry" + of(s, input), x.entry(s, input), want);
            }
        }
        for (int s = -1; s <= n; s++) {
            int want = in(s, 0, n - 1) ? -2 : -1;
            due(m, "splitLength" + of(s, s), x.splitLength(s, s), want);
            due(m, "splitWord" + of(s, s), x.splitWord(s, s), want);
        }
        for (int set : new int[] {-1, 0, 1, m.all(), m.all() + 1}) {
            int want = in(set, 1, m.all()) ? -2 : -1;
            due(m, "implied" + of(set, -1), x.implied(set, -1), want);
            due(m, "implied" + of(set, 2), x.implied(set, 2), want);
        }
    }

    // ---- What an accepted set changes

    /** Every place of the table, its least, its greatest, its own and one more entry. */
    private static void setChangesOneEntry(Machine m) {
        sentence = "Promise 3: an accepted set changes the entry, what hangs on it, and brings the run to 0";
        List<Way> ways = ways(m);
        int turn = 0;
        for (int place = 0; place < 2 * m.n(); place++) {
            int before = m.entries()[place];
            for (int entry : new int[] {0, m.greatestEntry(), before, pick(m.greatestEntry() + 1)}) {
                Way way = ways.get(turn % ways.size());
                FsmReducer x = at(m, way);
                String call = "set" + of(place / 2, place % 2, entry);
                due(m, call + " in " + way.place(), x.set(place / 2, place % 2, entry), before);
                asDue(call + " in " + way.place(), x, m.with(place, entry), 0, turn % 2);
                turn++;
            }
        }
    }

    /** Over many sets that change everything, and back: nothing is left of what was in between. */
    private static void setAndSetBack(Machine m) {
        sentence = "Promise 3: what is asked later hangs on the entries that stand then";
        Machine between = picked(m.n(), pick(5));
        for (int firstInput = 0; firstInput < 2; firstInput++) {
            FsmReducer x = madeFromTheFirst(m);
            for (int place = 0; place < 2 * m.n(); place++) {
                int answer = x.set(place / 2, place % 2, between.entries()[place]);
                due(m, "set of place " + place, answer, m.entries()[place]);
                x.coverSize();
                x.read(place % 2);
            }
            for (int place = 2 * m.n() - 1; place >= 0; place--) {
                int answer = x.set(place / 2, place % 2, m.entries()[place]);
                due(m, "set back of place " + place, answer, between.entries()[place]);
            }
            asDue("set to " + between + " and back", x, m, 0, firstInput);
        }
    }

    // ---- What restart and read change

    private static void restartChangesTheRunAlone(Machine m) {
        sentence = "Promise 15: restart brings the run to 0 and leaves all else as it was";
        for (Way way : ways(m)) {
            for (int firstInput = 0; firstInput < 2; firstInput++) {
                FsmReducer x = at(m, way);
                x.restart();
                asDue("restart() in " + way.place(), x, m, 0, firstInput);
            }
        }
    }

    private static void readChangesTheRunAlone(Machine m) {
        sentence = "Promise 16: read moves the run and leaves all else as it was";
        for (Way way : ways(m)) {
            for (int k = 0; k < 4; k++) {
                int input = k % 2;
                FsmReducer x = at(m, way);
                String call = "read" + of(input) + " in " + way.place();
                due(m, call, x.read(input), answerOfRead(m, way.place(), input));
                asDue(call, x, m, m.placeAfter(way.place(), input), k / 2);
            }
        }
    }

    private static void objectsAreApart(List<Machine> machines) {
        sentence = "what one object is told does not reach another";
        for (int k = 1; k < machines.size(); k++) {
            Machine one = machines.get(k - 1);
            Machine other = machines.get(k);
            FsmReducer x = new FsmReducer(one.n());
            FsmReducer y = new FsmReducer(other.n());
            for (int place = 0; place < 10; place++) {
                if (place < 2 * one.n()) {
                    x.set(place / 2, place % 2, one.entries()[place]);
                }
                if (place < 2 * other.n()) {
                    y.set(place / 2, place % 2, other.entries()[place]);
                }
            }
            x.read(0);
            y.read(1);
            y.restart();
            y.read(0);
            asDue("sets in turn", x, one, one.placeAfter(0, 0), 0);
            asDue("sets in turn", y, other, other.placeAfter(0, 0), 1);
        }
    }

    /** LANGUAGE.md, rule 7. The answers are free, as these are far more calls than 512. */
    private static void noCallThrows() {
        for (int n : ARGUMENTS) {
            FsmReducer x = new FsmReducer(n);
            for (int a : ARGUMENTS) {
                for (int b : ARGUMENTS) {
                    for (int c : ARGUMENTS) {
                        x.set(a, b, c);
                        x.isCover(a, b, c);
                    }
                    callWithTwo(x, a, b);
                }
                callWithOne(x, a);
            }
        }
    }

    private static void callWithTwo(FsmReducer x, int a, int b) {
        x.entry(a, b);
        x.compatible(a, b);
        x.splitLength(a, b);
        x.splitWord(a, b);
        x.implied(a, b);
        x.read(a);
        x.read(b);
        x.lost();
    }

    private static void callWithOne(FsmReducer x, int a) {
        x.compatibleSet(a);
        x.maximals();
        x.maximal(a);
        x.coverSize();
        x.coverSet(a);
        x.restart();
        x.states();
    }

    // ---- What one promise says is what another says

    private static void twosAndSetsAgree(Machine m) {
        sentence = "Promises 5 to 8: compatible, splitLength, splitWord and compatibleSet say the same";
        FsmReducer x = madeFromTheFirst(m);
        for (int s = 0; s < m.n(); s++) {
            for (int t = 0; t < m.n(); t++) {
                boolean split = x.compatible(s, t) == 0;
                int length = x.splitLength(s, t);
                int word = x.splitWord(s, t);
                due(m, "splitLength" + of(s, t) + " is -2", length == -2 ? 0 : 1, split ? 1 : 0);
                due(m, "splitWord" + of(s, t) + " is -2", word == -2 ? 0 : 1, split ? 1 : 0);
                due(m, "compatibleSet of " + of(s, t), x.compatibleSet(1 << s | 1 << t), split ? 0 : 1);
                if (split) {
                    due(m, "first word that splits " + of(s, t), firstSplittingWord(m, s, t), word + (1 << length));
                }
            }
        }
    }

    /** A word as a number in base 2 with a 1 in front, so that shorter words are lesser numbers. */
    private static int firstSplittingWord(Machine m, int s, int t) {
        for (int marked = 2; marked < 1 << 11; marked++) {
            int length = 31 - Integer.numberOfLeadingZeros(marked);
            int one = s;
            int other = t;
            for (int k = length - 1; k > 0; k--) {
                one = m.placeAfter(one, marked >> k & 1);
                other = m.placeAfter(other, marked >> k & 1);
            }
            if (outputsDiffer(m, one, other, marked & 1)) {
                return marked;
            }
        }
        return 0;
    }

    private static boolean outputsDiffer(Machine m, int one, int other, int input) {
        if (one == NONE || other == NONE || m.output(one, input) == NONE || m.output(other, input) == NONE) {
            return false;
        }
        return m.output(one, input) != m.output(other, input);
    }

    private static void maximalsAndSetsAgree(Machine m) {
        sentence = "Promises 8 to 10: maximals and maximal name the sets that compatibleSet tells";
        FsmReducer x = madeFromTheFirst(m);
        List<Integer> compatible = new ArrayList<>();
        for (int set = 1; set <= m.all(); set++) {
            if (x.compatibleSet(set) == 1) {
                compatible.add(set);
            }
        }
        int count = 0;
        for (int set : compatible) {
            if (compatible.stream().noneMatch(more -> more != set && (more & set) == set)) {
                due(m, "maximal" + of(count), x.maximal(count), set);
                count++;
            }
        }
        due(m, "maximals()", x.maximals(), count);
        due(m, "maximal" + of(count), x.maximal(count), -1);
    }

    private static void coverAndSetsAgree(Machine m) {
        sentence = "Promises 8 and 11 to 13: the best cover is a cover by what compatibleSet and implied say";
        FsmReducer x = madeFromTheFirst(m);
        int covered = 0;
        for (int i = 0; i < x.coverSize(); i++) {
            int set = x.coverSet(i);
            due(m, "compatibleSet" + of(set), x.compatibleSet(set), 1);
            due(m, "coverSet" + of(i) + " over the one before", set > x.coverSet(i - 1) ? 1 : 0, 1);
            covered |= set;
            for (int input = 0; input < 2; input++) {
                int reached = x.implied(set, input);
                boolean isPart = false;
                for (int k = 0; k < x.coverSize(); k++) {
                    isPart |= (reached & x.coverSet(k)) == reached;
                }
                due(m, "implied" + of(set, input) + " is part of one", isPart ? 1 : 0, 1);
            }
        }
        due(m, "all sets of the best cover together", covered, m.all());
        due(m, "coverSize() within the states", in(x.coverSize(), 1, m.n()) ? 1 : 0, 1);
    }

    /** Of all lists of up to three sets in the document's order, isCover knows the best cover first. */
    private static void coverAndIsCoverAgree(Machine m) {
        sentence = "Promises 12 to 14: the best cover is the first list that isCover knows as a cover";
        FsmReducer x = madeFromTheFirst(m);
        int size = x.coverSize();
        int[] best = new int[3];
        for (int i = 0; i < 3; i++) {
            best[i] = size > 3 || i < 3 - size ? 0 : x.coverSet(i - (3 - size));
        }
        int asked = 0;
        for (int a = 0; a <= m.all(); a++) {
            for (int b = a == 0 ? 0 : a + 1; b <= m.all(); b++) {
                for (int c = b + 1; c <= m.all(); c++) {
                    boolean isBest = Arrays.equals(best, new int[] {a, b, c});
                    due(m, "isCover" + of(c, a, b), x.isCover(c, a, b), isBest ? 1 : 0);
                    if (isBest) {
                        return;
                    }
                    asked++;
                    x = asked % MOST_QUESTIONS == 0 ? madeFromTheFirst(m) : x;
                }
            }
        }
        due(m, "coverSize() without a cover of up to three", size > 3 ? 1 : 0, 1);
    }
}
