import java.util.ArrayDeque;
import java.util.Arrays;

/**
 * The document in a second form, found another way than in MachineTwins: the first telling word of
 * each pair is searched forwards, through the pairs of states in the order of words.
 */
final class Model {
    private final int[][] next = new int[16][3];
    private final int[][] output = new int[16][3];

    Model() {
        for (int state = 0; state < 16; state++) {
            Arrays.fill(next[state], state);
        }
    }

    int transition(int state, int input, int to) {
        if (bad(state)) {
            return -1;
        }
        if (input < 0 || input > 2) {
            return -2;
        }
        int old = next[state][input] + 16 * output[state][input];
        next[state][input] = Math.floorMod(to, 16);
        output[state][input] = Math.floorMod(Math.floorDiv(to, 16), 8);
        return old;
    }

    int exchange(int a, int b, int input) {
        if (bad(a) || bad(b)) {
            return -1;
        }
        if (input < 0 || input > 2) {
            return -2;
        }
        int ofA = output[a][input];
        int ofB = output[b][input];
        output[a][input] = ofB;
        output[b][input] = ofA;
        return 0;
    }

    boolean alike(int a, int b) {
        return !bad(a) && !bad(b) && firstWord(a, b) == null;
    }

    int distance(int a, int b) {
        if (bad(a) || bad(b)) {
            return -1;
        }
        int[] word = firstWord(a, b);
        return word == null ? -4 : word.length;
    }

    int teller(int a, int b, int i) {
        if (bad(a) || bad(b)) {
            return -1;
        }
        int[] word = firstWord(a, b);
        return word == null || i < 0 || i >= word.length ? -4 : word[i];
    }

    int kind(int state) {
        if (bad(state)) {
            return -1;
        }
        for (int smaller = 0; smaller < state; smaller++) {
            if (alike(smaller, state)) {
                return smaller;
            }
        }
        return state;
    }

    int kinds() {
        boolean[] all = new boolean[16];
        Arrays.fill(all, true);
        return kindsOf(all);
    }

    int reachableKinds(int state) {
        if (bad(state)) {
            return -1;
        }
        boolean[] reached = new boolean[16];
        ArrayDeque<Integer> open = new ArrayDeque<>();
        open.add(state);
        while (!open.isEmpty()) {
            int from = open.remove();
            if (!reached[from]) {
                reached[from] = true;
                for (int to : next[from]) {
                    open.add(to);
                }
            }
        }
        return kindsOf(reached);
    }

    int depth() {
        int depth = 0;
        for (int a = 0; a < 16; a++) {
            for (int b = 0; b < 16; b++) {
                depth = Math.max(depth, distance(a, b));
            }
        }
        return depth;
    }

    int run(int state, int word, int n) {
        if (bad(state)) {
            return -1;
        }
        if (n < 0 || n > 10) {
            return -2;
        }
        int rest = word;
        int now = state;
        for (int i = 0; i < n; i++) {
            now = next[now][Math.floorMod(rest, 4) % 3];
            rest = Math.floorDiv(rest, 4);
        }
        return now;
    }

    /** Whether the last output that the word gives from a is another one than from b. */
    boolean tells(int a, int b, int[] word) {
        return lastOutput(a, word) != lastOutput(b, word);
    }

    private int lastOutput(int state, int[] word) {
        int now = state;
        int last = -1;
        for (int input : word) {
            last = output[now][input];
            now = next[now][input];
        }
        return last;
    }

    private int[] firstWord(int a, int b) {
        int[][] wordTo = new int[256][];
        ArrayDeque<Integer> open = new ArrayDeque<>();
        wordTo[16 * a + b] = new int[0];
        open.add(16 * a + b);
        while (!open.isEmpty()) {
            int pair = open.remove();
            int x = pair / 16;
            int y = pair % 16;
            for (int input = 0; input < 3; input++) {
                int[] word = Arrays.copyOf(wordTo[pair], wordTo[pair].length + 1);
                word[word.length - 1] = input;
                if (output[x][input] != output[y][input]) {
                    return word;
                }
                int after = 16 * next[x][input] + next[y][input];
                if (wordTo[after] == null) {
                    wordTo[after] = word;
                    open.add(after);
                }
            }
        }
        return null;
    }

    private int kindsOf(boolean[] states) {
        boolean[] seen = new boolean[16];
        int count = 0;
        for (int state = 0; state < 16; state++) {
            if (states[state] && !seen[kind(state)]) {
                seen[kind(state)] = true;
                count++;
            }
        }
        return count;
    }

    private static boolean bad(int state) {
        return state < 0 || state > 15;
    }
}
