/**
 * Long mixed runs of calls against the model, and the first telling words against a plain list of
 * all short words. The numbers come from a fixed row, so every run of the test is the same.
 */
public final class ModelTest {
    private static final int OBJECTS = 500;
    private static final int MOST_CALLS = 512;
    private static final int LONGEST_LISTED = 6;
    private static long row = 20261115L;
    private static int deepest = 0;

    public static void main(String[] args) {
        for (int object = 0; object < OBJECTS; object++) {
            mixedRun(object);
        }
        for (int object = 0; object < 60; object++) {
            listedWords(object);
        }
        Due.is("some machine was at least eight deep", deepest >= 8, true);
        Due.end();
    }

    private static int below(int bound) {
        row = row * 6364136223846793005L + 1442695040888963407L;
        return (int) ((row >>> 33) % bound);
    }

    /** Mostly a number from 0 up, now and then one outside. */
    private static int mostlyBelow(int bound) {
        return below(25) == 0 ? below(3 * bound) - bound : below(bound);
    }

    private static void mixedRun(int object) {
        MachineTwins x = new MachineTwins();
        Model model = new Model();
        int states = 2 + below(15);
        int quiet = 1 + below(30);
        for (int call = 0; call < MOST_CALLS; call++) {
            String at = "object " + object + ", call " + call + ": ";
            if (call < 3 * states || below(8) == 0) {
                change(at, x, model, states, quiet);
            } else {
                ask(at, x, model, states);
            }
        }
        deepest = Math.max(deepest, model.depth());
    }

    private static int target(int states, int quiet) {
        int output = below(quiet) == 0 ? below(8) : 0;
        int others = below(6) == 0 ? below(1 << 24) << 7 : 0;
        return below(states) + 16 * output + others;
    }

    private static void change(String at, MachineTwins x, Model model, int states, int quiet) {
        int a = mostlyBelow(states);
        int b = mostlyBelow(states);
        int input = mostlyBelow(3);
        int to = target(states, quiet);
        if (below(6) == 0) {
            String call = at + "exchange(" + a + ", " + b + ", " + input + ")";
            Due.is(call, x.exchange(a, b, input), model.exchange(a, b, input));
        } else {
            String call = at + "transition(" + a + ", " + input + ", " + to + ")";
            Due.is(call, x.transition(a, input, to), model.transition(a, input, to));
        }
    }

    private static void ask(String at, MachineTwins x, Model model, int states) {
        int a = mostlyBelow(states);
        int b = mostlyBelow(states);
        int i = below(6) - 1;
        int n = below(14) - 2;
        int word = below(Integer.MAX_VALUE) * (below(2) == 0 ? 1 : -1);
        String both = "(" + a + ", " + b;
        switch (below(9)) {
            case 0: Due.is(at + "alike" + both + ")", x.alike(a, b), model.alike(a, b)); break;
            case 1: Due.is(at + "distance" + both + ")", x.distance(a, b), model.distance(a, b)); break;
            case 2: Due.is(at + "kind(" + a + ")", x.kind(a), model.kind(a)); break;
            case 3: Due.is(at + "kinds()", x.kinds(), model.kinds()); break;
            case 4: Due.is(at + "reachableKinds(" + a + ")", x.reachableKinds(a), model.reachableKinds(a)); break;
            case 5: Due.is(at + "depth()", x.depth(), model.depth()); break;
            case 6: Due.is(at + "run(" + a + ", " + word + ", " + n + ")", x.run(a, word, n), model.run(a, word, n)); break;
            default: Due.is(at + "teller" + both + ", " + i + ")", x.teller(a, b, i), model.teller(a, b, i)); break;
        }
    }

    private static void listedWords(int object) {
        MachineTwins x = new MachineTwins();
        Model model = new Model();
        int states = 3 + below(6);
        for (int change = 0; change < 4 * states; change++) {
            int state = below(states);
            int input = below(3);
            int to = target(states, 12);
            x.transition(state, input, to);
            model.transition(state, input, to);
        }
        for (int a = 0; a < states; a++) {
            for (int b = a + 1; b < states; b++) {
                firstListed("listed words, object " + object + ": ", x, model, a, b);
            }
        }
    }

    private static void firstListed(String at, MachineTwins x, Model model, int a, int b) {
        int got = x.distance(a, b);
        String both = "(" + a + ", " + b;
        for (int length = 1; length <= LONGEST_LISTED; length++) {
            int[] word = new int[length];
            do {
                if (model.tells(a, b, word)) {
                    Due.is(at + "distance" + both + ")", got, length);
                    for (int i = 0; i < length; i++) {
                        Due.is(at + "teller" + both + ", " + i + ")", x.teller(a, b, i), word[i]);
                    }
                    return;
                }
            } while (toNextWord(word));
        }
        Due.is(at + "distance" + both + ") is none or long", got == -4 || got > LONGEST_LISTED, true);
    }

    private static boolean toNextWord(int[] word) {
        for (int i = word.length - 1; i >= 0; i--) {
            if (word[i] < 2) {
                word[i]++;
                return true;
            }
            word[i] = 0;
        }
        return false;
    }
}
