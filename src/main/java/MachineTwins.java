/** Two machines side by side: which of sixteen states can be told apart, and by which word. */
public final class MachineTwins {
    public static final int BAD_STATE = -1;
    public static final int BAD_INPUT = -2;
    public static final int BAD_OUTPUT = -3;
    public static final int NONE = -4;

    private static final int STATES = 16;
    private static final int INPUTS = 3;
    private static final int PLACES = STATES * INPUTS;
    private static final int PAIRS = STATES * STATES;
    private static final int ALL_STATES = (1 << STATES) - 1;
    private static final int MOST_RUN_INPUTS = 10;

    // Each further length must split a class of states, so no shortest word is longer than this.
    private static final int LONGEST = STATES - 1;

    private final int[] next = new int[PLACES];
    private final int[] output = new int[PLACES];

    // For each pair of states the length of the shortest word that tells them apart, 0 if they
    // are alike. It is kept in step by every change, so that the asking calls only read.
    private final int[] apart = new int[PAIRS];

    public MachineTwins() {
        for (int state = 0; state < STATES; state++) {
            for (int input = 0; input < INPUTS; input++) {
                next[place(state, input)] = state;
            }
        }
    }

    public int transition(int state, int input, int to) {
        if (!isState(state)) {
            return BAD_STATE;
        }
        if (!isInput(input)) {
            return BAD_INPUT;
        }
        int at = place(state, input);
        int old = next[at] + 16 * output[at];
        next[at] = to & 15;
        output[at] = (to >> 4) & 7;
        measure();
        return old;
    }

    public int exchange(int a, int b, int input) {
        if (!isState(a) || !isState(b)) {
            return BAD_STATE;
        }
        if (!isInput(input)) {
            return BAD_INPUT;
        }
        int atA = place(a, input);
        int atB = place(b, input);
        int kept = output[atA];
        output[atA] = output[atB];
        output[atB] = kept;
        measure();
        return 0;
    }

    public boolean alike(int a, int b) {
        return isState(a) && isState(b) && apart[pair(a, b)] == 0;
    }

    public int distance(int a, int b) {
        if (!isState(a) || !isState(b)) {
            return BAD_STATE;
        }
        int length = apart[pair(a, b)];
        return length == 0 ? NONE : length;
    }

    public int teller(int a, int b, int i) {
        if (!isState(a) || !isState(b)) {
            return BAD_STATE;
        }
        int length = apart[pair(a, b)];
        if (i < 0 || i >= length) {
            return NONE;
        }
        int fromA = a;
        int fromB = b;
        for (int step = 0; step < i; step++) {
            int input = firstInput(fromA, fromB, length - step);
            fromA = next[place(fromA, input)];
            fromB = next[place(fromB, input)];
        }
        return firstInput(fromA, fromB, length - i);
    }

    public int kind(int state) {
        return isState(state) ? smallestAlike(state) : BAD_STATE;
    }

    public int kinds() {
        return countKinds(ALL_STATES);
    }

    public int reachableKinds(int state) {
        if (!isState(state)) {
            return BAD_STATE;
        }
        int reached = 1 << state;
        // A path without a repeated state has fewer than STATES steps.
        for (int step = 1; step < STATES; step++) {
            reached = withNextStates(reached);
        }
        return countKinds(reached);
    }

    public int depth() {
        int deepest = 0;
        for (int at = 0; at < PAIRS; at++) {
            if (apart[at] > deepest) {
                deepest = apart[at];
            }
        }
        return deepest;
    }

    public int run(int state, int word, int n) {
        if (!isState(state)) {
            return BAD_STATE;
        }
        if (n < 0 || n > MOST_RUN_INPUTS) {
            return BAD_INPUT;
        }
        int now = state;
        for (int i = 0; i < n; i++) {
            int digit = (word >> (2 * i)) & 3;
            int input = digit == 3 ? 0 : digit;
            now = next[place(now, input)];
        }
        return now;
    }

    private static boolean isState(int state) {
        return state >= 0 && state < STATES;
    }

    private static boolean isInput(int input) {
        return input >= 0 && input < INPUTS;
    }

    private static int place(int state, int input) {
        return state * INPUTS + input;
    }

    private static int pair(int a, int b) {
        return a * STATES + b;
    }

    private void measure() {
        for (int at = 0; at < PAIRS; at++) {
            apart[at] = 0;
        }
        boolean found = true;
        // A shortest word's tail is a shortest word too, so an empty length ends the search.
        for (int length = 1; length <= LONGEST && found; length++) {
            found = markPairs(length);
        }
    }

    private boolean markPairs(int length) {
        boolean found = false;
        for (int a = 0; a < STATES; a++) {
            for (int b = a + 1; b < STATES; b++) {
                if (apart[pair(a, b)] == 0 && markPair(a, b, length)) {
                    found = true;
                }
            }
        }
        return found;
    }

    private boolean markPair(int a, int b, int length) {
        boolean told = false;
        for (int input = 0; input < INPUTS && !told; input++) {
            told = starts(a, b, input, length);
        }
        if (told) {
            apart[pair(a, b)] = length;
            apart[pair(b, a)] = length;
        }
        return told;
    }

    // The last input goes untested: the two are this far apart, so one of the inputs must do.
    private int firstInput(int a, int b, int length) {
        int input = 0;
        while (input < INPUTS - 1 && !starts(a, b, input, length)) {
            input++;
        }
        return input;
    }

    // Whether a word of this length that begins with the input tells a and b apart; it is asked
    // only where no shorter word does.
    private boolean starts(int a, int b, int input, int length) {
        int atA = place(a, input);
        int atB = place(b, input);
        if (length == 1) {
            return output[atA] != output[atB];
        }
        return apart[pair(next[atA], next[atB])] == length - 1;
    }

    private int smallestAlike(int state) {
        int smallest = 0;
        while (smallest < state && apart[pair(smallest, state)] != 0) {
            smallest++;
        }
        return smallest;
    }

    // State sets are bit masks: bit s stands for state s.
    private int withNextStates(int set) {
        int grown = set;
        for (int at = 0; at < PLACES; at++) {
            if (((set >> (at / INPUTS)) & 1) != 0) {
                grown |= 1 << next[at];
            }
        }
        return grown;
    }

    private int countKinds(int set) {
        int seen = 0;
        int count = 0;
        for (int state = 0; state < STATES; state++) {
            int bit = 1 << smallestAlike(state);
            if (((set >> state) & 1) != 0 && (seen & bit) == 0) {
                seen |= bit;
                count++;
            }
        }
        return count;
    }
}
