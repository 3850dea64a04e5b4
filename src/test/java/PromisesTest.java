/** The promises one by one, on small machines whose answers were worked out by hand. */
public final class PromisesTest {
    private static final int NONE = -4;

    public static void main(String[] args) {
        newObject();
        transitionAnswersTheOldOne();
        exchangeMovesOutputsOnly();
        exchangeTakesPartInTelling();
        alikeStates();
        distancesOfTheChain();
        tellerTakesTheFirstWord();
        kindIsTheSmallestAlike();
        kindsAreCounted();
        reachableKindsCountsKindsNotStates();
        reachableKindsOfALongPath();
        depthIsTheLongestShortestWord();
        runFollowsTheWord();
        askingChangesNothing();
        objectsAreApart();
        Due.end();
    }

    private static void newObject() {
        MachineTwins x = new MachineTwins();
        Due.is("new: kinds()", x.kinds(), 1);
        Due.is("new: depth()", x.depth(), 0);
        for (int state = 0; state < 16; state++) {
            Due.is("new: kind(" + state + ")", x.kind(state), 0);
            Due.is("new: reachableKinds(" + state + ")", x.reachableKinds(state), 1);
            Due.is("new: alike(" + state + ", 15)", x.alike(state, 15), true);
            Due.is("new: distance(0, " + state + ")", x.distance(0, state), NONE);
            Due.is("new: teller(0, " + state + ", 0)", x.teller(0, state, 0), NONE);
            Due.is("new: run(" + state + ", 0x64924, 10)", x.run(state, 0x64924, 10), state);
        }
        for (int state = 0; state < 16; state++) {
            for (int input = 0; input < 3; input++) {
                Due.is("new: transition(" + state + ", " + input + ", 0)", x.transition(state, input, 0), state);
            }
        }
    }

    private static void transitionAnswersTheOldOne() {
        MachineTwins x = new MachineTwins();
        Due.is("transition(4, 1, 9 out 5)", x.transition(4, 1, Machines.to(9, 5)), 4);
        Due.is("transition(4, 1, 15 out 7)", x.transition(4, 1, Machines.to(15, 7)), Machines.to(9, 5));
        Due.is("transition(4, 1, 0 out 0)", x.transition(4, 1, 0), Machines.to(15, 7));
        Due.is("transition(4, 1, 0 out 0) again", x.transition(4, 1, 0), 0);
        Due.is("its neighbour transition(4, 0, 4)", x.transition(4, 0, 4), 4);
        Due.is("its neighbour transition(4, 2, 4)", x.transition(4, 2, 4), 4);
        Due.is("its neighbour transition(3, 2, 3)", x.transition(3, 2, 3), 3);
        Due.is("its neighbour transition(5, 0, 5)", x.transition(5, 0, 5), 5);
    }

    private static void exchangeMovesOutputsOnly() {
        MachineTwins x = new MachineTwins();
        x.transition(2, 0, Machines.to(11, 3));
        x.transition(2, 1, Machines.to(12, 4));
        x.transition(2, 2, Machines.to(13, 5));
        x.transition(14, 1, Machines.to(8, 6));
        Due.is("exchange(2, 14, 1)", x.exchange(2, 14, 1), 0);
        Due.is("run(2, 1, 1)", x.run(2, 1, 1), 12);
        Due.is("run(14, 1, 1)", x.run(14, 1, 1), 8);
        Due.is("exchanged 2, 1", x.transition(2, 1, Machines.to(12, 6)), Machines.to(12, 6));
        Due.is("exchanged 14, 1", x.transition(14, 1, Machines.to(8, 4)), Machines.to(8, 4));
        Due.is("kept 2, 0", x.transition(2, 0, Machines.to(11, 3)), Machines.to(11, 3));
        Due.is("kept 2, 2", x.transition(2, 2, Machines.to(13, 5)), Machines.to(13, 5));
        Due.is("kept 14, 0", x.transition(14, 0, 14), 14);
        Due.is("kept 14, 2", x.transition(14, 2, 14), 14);
        Due.is("exchange(14, 2, 1) back", x.exchange(14, 2, 1), 0);
        Due.is("back 2, 1", x.transition(2, 1, 0), Machines.to(12, 4));
        Due.is("back 14, 1", x.transition(14, 1, 0), Machines.to(8, 6));
    }

    private static void exchangeTakesPartInTelling() {
        MachineTwins x = new MachineTwins();
        x.transition(5, 0, Machines.to(5, 1));
        Due.is("before: distance(5, 6)", x.distance(5, 6), 1);
        Due.is("before: alike(6, 0)", x.alike(6, 0), true);
        x.exchange(5, 6, 0);
        Due.is("after: alike(5, 0)", x.alike(5, 0), true);
        Due.is("after: distance(6, 0)", x.distance(6, 0), 1);
        Due.is("after: kind(6)", x.kind(6), 6);
    }

    private static void alikeStates() {
        MachineTwins x = new MachineTwins();
        x.transition(1, 0, Machines.to(2, 3));
        x.transition(2, 0, Machines.to(1, 3));
        x.transition(7, 0, Machines.to(7, 3));
        Due.is("a ring and a loop: alike(1, 7)", x.alike(1, 7), true);
        Due.is("a ring and a loop: alike(7, 2)", x.alike(7, 2), true);
        Due.is("a ring and a loop: alike(1, 0)", x.alike(1, 0), false);
        x.transition(2, 2, Machines.to(2, 1));
        Due.is("one output more: alike(1, 7)", x.alike(1, 7), false);
        Due.is("one output more: alike(1, 2)", x.alike(1, 2), false);
        Due.is("one output more: alike(2, 2)", x.alike(2, 2), true);
        x.transition(2, 2, Machines.to(2, 0));
        Due.is("taken back: alike(1, 7)", x.alike(1, 7), true);
    }

    private static void distancesOfTheChain() {
        for (int mover = 0; mover < 3; mover++) {
            MachineTwins x = Machines.chain(mover);
            for (int a = 0; a < 16; a++) {
                for (int b = 0; b < 16; b++) {
                    int want = a == b ? NONE : 16 - Math.max(a, b);
                    Due.is("chain " + mover + ": distance(" + a + ", " + b + ")", x.distance(a, b), want);
                }
            }
        }
    }

    private static void tellerTakesTheFirstWord() {
        MachineTwins x = new MachineTwins();
        x.transition(0, 0, 2);
        x.transition(1, 0, 3);
        x.transition(0, 1, 4);
        x.transition(1, 1, 5);
        x.transition(3, 2, Machines.to(3, 1));
        x.transition(5, 0, Machines.to(5, 1));
        word("0 2 comes before 1 0", x, 0, 1, 0, 2);
        word("the states the other way round", x, 1, 0, 0, 2);
        x.transition(1, 2, Machines.to(1, 7));
        word("a shorter word comes first", x, 0, 1, 2);
        x.transition(1, 1, Machines.to(5, 7));
        word("the smaller of two inputs", x, 0, 1, 1);
        word("the outputs need only differ", x, 3, 5, 0);
        for (int mover = 0; mover < 3; mover++) {
            int[] longest = new int[15];
            java.util.Arrays.fill(longest, mover);
            word("the chain's longest word", Machines.chain(mover), 0, 1, longest);
        }
    }

    private static void word(String of, MachineTwins x, int a, int b, int... want) {
        Due.is(of + ": distance(" + a + ", " + b + ")", x.distance(a, b), want.length);
        for (int i = 0; i < want.length; i++) {
            Due.is(of + ": teller(" + a + ", " + b + ", " + i + ")", x.teller(a, b, i), want[i]);
        }
        Due.is(of + ": teller behind the word", x.teller(a, b, want.length), NONE);
    }

    private static void kindIsTheSmallestAlike() {
        MachineTwins x = new MachineTwins();
        x.transition(6, 1, Machines.to(6, 4));
        x.transition(9, 1, Machines.to(6, 4));
        x.transition(15, 1, Machines.to(9, 4));
        x.transition(10, 1, Machines.to(10, 5));
        int[] want = {0, 0, 0, 0, 0, 0, 6, 0, 0, 6, 10, 0, 0, 0, 0, 6};
        for (int state = 0; state < 16; state++) {
            Due.is("kind(" + state + ")", x.kind(state), want[state]);
        }
        x.transition(0, 0, Machines.to(0, 1));
        Due.is("0 stands alone: kind(0)", x.kind(0), 0);
        Due.is("0 stands alone: kind(14)", x.kind(14), 1);
    }

    private static void kindsAreCounted() {
        MachineTwins x = new MachineTwins();
        for (int state = 0; state < 16; state++) {
            x.transition(state, 0, Machines.to(state, state & 7));
        }
        Due.is("eight outputs: kinds()", x.kinds(), 8);
        for (int state = 8; state < 16; state++) {
            x.transition(state, 2, Machines.to(state, 1));
        }
        Due.is("all apart: kinds()", x.kinds(), 16);
        Due.is("all apart: kind(15)", x.kind(15), 15);
        Due.is("all apart: depth()", x.depth(), 1);
        Due.is("the chain: kinds()", Machines.chain(2).kinds(), 16);
    }

    private static void reachableKindsCountsKindsNotStates() {
        MachineTwins x = new MachineTwins();
        x.transition(12, 1, Machines.to(13, 2));
        x.transition(13, 1, Machines.to(12, 2));
        x.transition(3, 1, Machines.to(3, 2));
        x.transition(5, 2, 13);
        x.transition(5, 0, 6);
        Due.is("a ring of one kind: reachableKinds(12)", x.reachableKinds(12), 1);
        Due.is("the ring's twin: reachableKinds(3)", x.reachableKinds(3), 1);
        Due.is("itself, the ring and 6: reachableKinds(5)", x.reachableKinds(5), 3);
        Due.is("not come to from 6: reachableKinds(6)", x.reachableKinds(6), 1);
        Due.is("kinds()", x.kinds(), 3);
    }

    private static void reachableKindsOfALongPath() {
        for (int mover = 0; mover < 3; mover++) {
            MachineTwins up = Machines.chain(mover);
            for (int state = 0; state < 16; state++) {
                Due.is("up: reachableKinds(" + state + ")", up.reachableKinds(state), 16 - state);
            }
        }
        MachineTwins down = new MachineTwins();
        for (int state = 15; state > 0; state--) {
            down.transition(state, 2, Machines.to(state - 1, 0));
        }
        down.transition(0, 2, Machines.to(0, 1));
        for (int state = 0; state < 16; state++) {
            Due.is("down: reachableKinds(" + state + ")", down.reachableKinds(state), state + 1);
        }
    }

    private static void depthIsTheLongestShortestWord() {
        MachineTwins x = Machines.chain(0);
        Due.is("the chain: depth()", x.depth(), 15);
        x.transition(7, 0, Machines.to(8, 1));
        // 0 and 8 come to their first 1 together, at the eighth input, and part only at the ninth.
        Due.is("a second 1: distance(8, 9)", x.distance(8, 9), 7);
        Due.is("a second 1: distance(0, 8)", x.distance(0, 8), 9);
        Due.is("a second 1: distance(7, 15)", x.distance(7, 15), 2);
        Due.is("a second 1: depth()", x.depth(), 9);
        x.transition(7, 0, 8);
        x.transition(15, 0, 15);
        Due.is("no output left: depth()", x.depth(), 0);
    }

    private static void runFollowsTheWord() {
        MachineTwins x = new MachineTwins();
        x.transition(0, 0, 1);
        x.transition(1, 1, 2);
        x.transition(2, 2, 3);
        x.transition(3, 0, 4);
        Due.is("run(0, 0, 0)", x.run(0, 0, 0), 0);
        Due.is("run(0, 0 1 2 3, 1)", x.run(0, 0b11100100, 1), 1);
        Due.is("run(0, 0 1 2 3, 2)", x.run(0, 0b11100100, 2), 2);
        Due.is("run(0, 0 1 2 3, 3)", x.run(0, 0b11100100, 3), 3);
        Due.is("run(0, 0 1 2 3, 4)", x.run(0, 0b11100100, 4), 4);
        Due.is("run(0, 3 1 2 0, 4)", x.run(0, 0b00100111, 4), 4);
        Due.is("run(1, 1 1 1, 3)", x.run(1, 0b010101, 3), 2);
        Due.is("run(0, bits behind the word, 1)", x.run(0, -4, 1), 1);
    }

    private static void askingChangesNothing() {
        MachineTwins x = Machines.chain(1);
        for (int round = 0; round < 3; round++) {
            Due.is("asked again: alike(0, 1)", x.alike(0, 1), false);
            Due.is("asked again: distance(0, 1)", x.distance(0, 1), 15);
            Due.is("asked again: teller(0, 1, 14)", x.teller(0, 1, 14), 1);
            Due.is("asked again: kind(3)", x.kind(3), 3);
            Due.is("asked again: kinds()", x.kinds(), 16);
            Due.is("asked again: reachableKinds(4)", x.reachableKinds(4), 12);
            Due.is("asked again: depth()", x.depth(), 15);
            Due.is("asked again: run(0, 5, 2)", x.run(0, 5, 2), 2);
        }
        for (int state = 0; state < 15; state++) {
            Due.is("after asking: transition(" + state + ", 1, 0)", x.transition(state, 1, 0), state + 1);
        }
        Due.is("after asking: transition(15, 1, 0)", x.transition(15, 1, 0), Machines.to(15, 1));
    }

    private static void objectsAreApart() {
        MachineTwins changed = Machines.chain(0);
        MachineTwins other = new MachineTwins();
        Due.is("another object: kinds()", other.kinds(), 1);
        Due.is("another object: run(0, 0, 1)", other.run(0, 0, 1), 0);
        Due.is("the changed object: kinds()", changed.kinds(), 16);
    }
}
