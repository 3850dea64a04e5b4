/** The machines and wrong arguments that more than one test uses. */
final class Machines {
    /** The last three come to a good index if a product of them wraps around unseen. */
    static final int[] BAD_STATES = {
        -1, 16, 17, 255, -16, Integer.MIN_VALUE, Integer.MAX_VALUE, 1 << 28, 1431655766, -1431655765
    };
    static final int[] BAD_INPUTS = {-1, 3, 4, -3, Integer.MIN_VALUE, Integer.MAX_VALUE};

    private Machines() {}

    static int to(int next, int output) {
        return next + 16 * output;
    }

    /** Input 'mover' leads from each state to the one above; only state 15 answers it with 1. */
    static MachineTwins chain(int mover) {
        MachineTwins x = new MachineTwins();
        for (int state = 0; state < 15; state++) {
            x.transition(state, mover, to(state + 1, 0));
        }
        x.transition(15, mover, to(15, 1));
        return x;
    }

    /** No place is as in a new object: 48 calls. */
    static MachineTwins full() {
        MachineTwins x = new MachineTwins();
        for (int state = 0; state < 16; state++) {
            for (int input = 0; input < 3; input++) {
                x.transition(state, input, fullPlace(state, input));
            }
        }
        return x;
    }

    static int fullPlace(int state, int input) {
        return to((state + input + 1) & 15, 1 + (state + 2 * input) % 7);
    }

    /** Asks x what an untouched full machine answers: 202 calls, so x has had at most 310. */
    static void isStillFull(String after, MachineTwins x) {
        MachineTwins untouched = full();
        Due.is(after + ": kinds()", x.kinds(), untouched.kinds());
        Due.is(after + ": depth()", x.depth(), untouched.depth());
        for (int a = 0; a < 16; a++) {
            Due.is(after + ": kind(" + a + ")", x.kind(a), untouched.kind(a));
            Due.is(after + ": reachableKinds(" + a + ")", x.reachableKinds(a), untouched.reachableKinds(a));
            for (int b = 0; b < a; b++) {
                String call = after + ": distance(" + a + ", " + b + ")";
                Due.is(call, x.distance(a, b), untouched.distance(a, b));
            }
            placesAreStillFull(after, x, a);
        }
    }

    private static void placesAreStillFull(String after, MachineTwins x, int state) {
        for (int input = 0; input < 3; input++) {
            int place = fullPlace(state, input);
            String call = after + ": transition(" + state + ", " + input + ", " + place + ")";
            Due.is(call, x.transition(state, input, place), place);
        }
    }
}
