/**
 * The boundary cases: one test for each sentence of the document that names one. Due.about has the
 * sentence in the document's words, and the tests stand in the document's order.
 */
public final class BoundariesTest {
    private static final int BAD_STATE = -1;
    private static final int BAD_INPUT = -2;
    private static final int BAD_OUTPUT = -3;
    private static final int NONE = -4;
    private static final int MIN = Integer.MIN_VALUE;
    private static final int MAX = Integer.MAX_VALUE;

    public static void main(String[] args) {
        theLastCallThatIsPromised();
        manyChanges();
        firstAndLastStateInputAndOutput();
        theEmptyWordTellsNothing();
        alikeIfNoWordTells();
        shorterWordsFirst();
        wordsOfEqualLength();
        theSmallestAlike();
        askingChangesNothing();
        refusedAskingChangesNothing();
        badStatesOfAlike();
        badStatesOfDistance();
        badStatesOfTeller();
        badStatesOfReachableKinds();
        badStatesOfRun();
        aNewObject();
        bitsOfTo();
        otherBitsOfTo();
        transitionBadState();
        transitionBadInput();
        transitionRefusedChangesNothing();
        transitionAnswersTheOldOne();
        exchangeAtTheEdges();
        exchangeBadState();
        exchangeBadInput();
        exchangeRefusedChangesNothing();
        exchangeAnswersNought();
        distanceShortestAndLongest();
        distanceNone();
        tellerFromNought();
        tellerNoneIfAlike();
        tellerNoneBehindTheWord();
        kindBadState();
        fewestAndMostKinds();
        reachableItselfCountedIn();
        fewestAndMostReachableKinds();
        depthLeastAndGreatest();
        depthWithoutPairs();
        runNoInput();
        runTenInputs();
        runThreeCountsAsNought();
        runBadInput();
        runBadStateFirst();
        changesBadStateFirst();
        tellerBadStateFirst();
        tellerBelowNought();
        badOutputIsNeverAnswered();
        Due.end();
    }

    // What it is

    private static void theLastCallThatIsPromised() {
        Due.about("An object is used for at most 512 calls after it has been made");
        Due.is("call 512: transition(15, 0, 0)", after511Calls().transition(15, 0, 0), Machines.to(15, 1));
        Due.is("call 512: exchange(0, 15, 0)", after511Calls().exchange(0, 15, 0), 0);
        Due.is("call 512: alike(0, 1)", after511Calls().alike(0, 1), false);
        Due.is("call 512: alike(1, 1)", after511Calls().alike(1, 1), true);
        Due.is("call 512: distance(0, 1)", after511Calls().distance(0, 1), 15);
        Due.is("call 512: teller(0, 1, 14)", after511Calls().teller(0, 1, 14), 0);
        Due.is("call 512: kind(15)", after511Calls().kind(15), 15);
        Due.is("call 512: kinds()", after511Calls().kinds(), 16);
        Due.is("call 512: reachableKinds(0)", after511Calls().reachableKinds(0), 16);
        Due.is("call 512: depth()", after511Calls().depth(), 15);
        Due.is("call 512: run(0, 0, 10)", after511Calls().run(0, 0, 10), 10);
        Due.is("call 512: kind(16)", after511Calls().kind(16), BAD_STATE);
        Due.is("call 512: run(0, 0, 11)", after511Calls().run(0, 0, 11), BAD_INPUT);
    }

    /** The chain of input 0, whose one output was set and taken away again and again. */
    private static MachineTwins after511Calls() {
        MachineTwins x = Machines.chain(0);
        for (int call = 17; call <= 511; call++) {
            int output = call & 1;
            int old = call == 17 ? 1 : 1 - output;
            String at = "call " + call + ": transition(15, 0, 15 out " + output + ")";
            Due.is(at, x.transition(15, 0, Machines.to(15, output)), Machines.to(15, old));
        }
        return x;
    }

    private static void manyChanges() {
        Due.about("An object is used for at most 512 calls after it has been made");
        MachineTwins x = new MachineTwins();
        int old = 0;
        for (int call = 1; call <= 256; call++) {
            Due.is("call " + (2 * call - 1) + ": transition(0, 2, " + call + ")", x.transition(0, 2, call), old);
            old = call & 127;
            // With an output of 1 or more at 0 alone, 0 is of a kind of its own.
            int kinds = old < 16 ? 1 : 2;
            Due.is("call " + 2 * call + ": kinds()", x.kinds(), kinds);
        }
    }

    // Terms

    private static void firstAndLastStateInputAndOutput() {
        Due.about("There are sixteen STATES (0 to 15), three INPUTS (0 to 2) and outputs 0 to 7.");
        int[] states = {0, 15};
        int[] inputs = {0, 2};
        for (int state : states) {
            for (int input : inputs) {
                edgeIsGood(state, input);
            }
        }
    }

    private static void edgeIsGood(int state, int input) {
        int other = 15 - state;
        String at = "state " + state + ", input " + input + ": ";
        MachineTwins x = new MachineTwins();
        Due.is(at + "transition to the other, output 7", x.transition(state, input, Machines.to(other, 7)), state);
        Due.is(at + "alike", x.alike(state, other), false);
        Due.is(at + "distance", x.distance(state, other), 1);
        Due.is(at + "teller", x.teller(other, state, 0), input);
        Due.is(at + "kind(0)", x.kind(0), 0);
        Due.is(at + "kind(15)", x.kind(15), state == 15 ? 15 : 1);
        Due.is(at + "reachableKinds", x.reachableKinds(state), 2);
        Due.is(at + "reachableKinds of the other", x.reachableKinds(other), 1);
        Due.is(at + "run", x.run(state, input, 1), other);
        Due.is(at + "exchange", x.exchange(state, other, input), 0);
        // The output is the other's now, and the state comes to it with one input.
        Due.is(at + "distance of the other, exchanged", x.distance(1, other), 1);
        Due.is(at + "distance of the state, exchanged", x.distance(1, state), 2);
        Due.is(at + "the other's place", x.transition(other, input, 0), Machines.to(other, 7));
        Due.is(at + "its own place", x.transition(state, input, 0), other);
    }

    private static void theEmptyWordTellsNothing() {
        Due.about("(so it has at least one input)");
        MachineTwins x = new MachineTwins();
        // All three inputs lead 0 and 1 to other states, but no output differs.
        for (int input = 0; input < 3; input++) {
            x.transition(0, input, 2 + input);
            x.transition(1, input, 12 - input);
        }
        Due.is("alike(0, 1)", x.alike(0, 1), true);
        Due.is("distance(0, 1)", x.distance(0, 1), NONE);
        Due.is("distance(1, 1)", x.distance(1, 1), NONE);
        x.transition(1, 2, Machines.to(10, 7));
        Due.is("one output: distance(0, 1)", x.distance(0, 1), 1);
        Due.is("one output: distance(1, 1)", x.distance(1, 1), NONE);
    }

    private static void alikeIfNoWordTells() {
        Due.about("Two states are ALIKE if no word tells them apart.");
        MachineTwins quiet = new MachineTwins();
        MachineTwins chain = Machines.chain(2);
        for (int a = 0; a < 16; a++) {
            for (int b = 0; b < 16; b++) {
                String call = "alike(" + a + ", " + b + ")";
                Due.is("a new object: " + call, quiet.alike(a, b), true);
                Due.is("the chain: " + call, chain.alike(a, b), a == b);
            }
        }
    }

    private static void shorterWordsFirst() {
        Due.about("WORDS ARE ORDERED: shorter ones first");
        MachineTwins x = new MachineTwins();
        x.transition(0, 0, 2);
        x.transition(1, 0, 3);
        x.transition(2, 0, 4);
        x.transition(3, 0, 5);
        x.transition(5, 0, Machines.to(5, 1));
        word("0 0 0 alone", x, 0, 1, 0, 0, 0);
        x.transition(3, 2, Machines.to(3, 1));
        word("0 2 before 0 0 0", x, 0, 1, 0, 2);
        x.transition(1, 2, Machines.to(1, 1));
        word("2 before 0 2", x, 0, 1, 2);
    }

    private static void wordsOfEqualLength() {
        Due.about("of equal length by the first input in which they differ, the smaller one first");
        MachineTwins x = new MachineTwins();
        x.transition(0, 1, 2);
        x.transition(1, 1, 3);
        x.transition(2, 2, 6);
        x.transition(3, 2, 7);
        x.transition(7, 0, Machines.to(7, 1));
        word("1 2 0 alone", x, 0, 1, 1, 2, 0);
        x.transition(2, 0, 4);
        x.transition(3, 0, 5);
        x.transition(5, 2, Machines.to(5, 1));
        word("1 0 2 before 1 2 0", x, 0, 1, 1, 0, 2);
        word("the states the other way round", x, 1, 0, 1, 0, 2);
        x.transition(4, 1, Machines.to(4, 6));
        word("1 0 1 before 1 0 2", x, 0, 1, 1, 0, 1);
        x.transition(0, 0, 8);
        x.transition(1, 0, 9);
        x.transition(8, 2, 10);
        x.transition(9, 2, 11);
        x.transition(11, 2, Machines.to(11, 1));
        word("0 2 2 before 1 0 1", x, 0, 1, 0, 2, 2);
    }

    private static void word(String of, MachineTwins x, int a, int b, int... want) {
        Due.is(of + ": distance(" + a + ", " + b + ")", x.distance(a, b), want.length);
        for (int i = 0; i < want.length; i++) {
            Due.is(of + ": teller(" + a + ", " + b + ", " + i + ")", x.teller(a, b, i), want[i]);
        }
    }

    private static void theSmallestAlike() {
        Due.about("THE KIND of a state is the smallest state that is alike with it.");
        MachineTwins x = new MachineTwins();
        Due.is("all alike: kind(15)", x.kind(15), 0);
        Due.is("all alike: kind(0)", x.kind(0), 0);
        x.transition(0, 0, Machines.to(0, 1));
        Due.is("0 alone: kind(15)", x.kind(15), 1);
        Due.is("0 alone: kind(1)", x.kind(1), 1);
        Due.is("0 alone: kind(0)", x.kind(0), 0);
        x.transition(15, 0, Machines.to(15, 1));
        Due.is("0 and 15: kind(15)", x.kind(15), 0);
        Due.is("0 and 15: kind(14)", x.kind(14), 1);
        x.transition(15, 0, Machines.to(15, 2));
        Due.is("15 alone: kind(15)", x.kind(15), 15);
        x.transition(14, 0, Machines.to(15, 2));
        Due.is("14 and 15: kind(15)", x.kind(15), 14);
        Due.is("14 and 15: kind(14)", x.kind(14), 14);
    }

    private static void askingChangesNothing() {
        Due.about("The calls below change nothing that any call answers.");
        MachineTwins x = Machines.full();
        for (int state = 0; state < 16; state++) {
            int other = 15 - state;
            x.alike(state, other);
            x.distance(state, other);
            x.teller(state, other, 0);
            x.teller(state, other, 1);
            x.kind(state);
            x.reachableKinds(state);
            x.run(state, MAX, 10);
            x.run(state, 0, 0);
        }
        x.kinds();
        x.depth();
        Machines.isStillFull("asked", x);
    }

    private static void refusedAskingChangesNothing() {
        Due.about("The calls below change nothing that any call answers.");
        MachineTwins x = Machines.full();
        for (int bad : Machines.BAD_STATES) {
            x.alike(bad, 1);
            x.alike(1, bad);
            x.distance(bad, 1);
            x.distance(1, bad);
            x.teller(bad, 1, 0);
            x.teller(1, bad, 0);
            x.teller(1, 2, bad);
            x.kind(bad);
            x.reachableKinds(bad);
            x.run(bad, -1, 10);
            x.run(1, -1, bad);
        }
        Machines.isStillFull("asked what is refused", x);
    }

    private static void badStatesOfAlike() {
        Due.about("A state not in 0 to 15 is BAD_STATE (false for booleans).");
        // In a new object all good states are alike, so only the refusal answers false.
        MachineTwins x = new MachineTwins();
        for (int bad : Machines.BAD_STATES) {
            Due.is("alike(" + bad + ", 0)", x.alike(bad, 0), false);
            Due.is("alike(0, " + bad + ")", x.alike(0, bad), false);
            Due.is("alike(" + bad + ", 15)", x.alike(bad, 15), false);
            Due.is("alike(15, " + bad + ")", x.alike(15, bad), false);
            Due.is("alike(" + bad + ", " + bad + ")", x.alike(bad, bad), false);
        }
    }

    private static void badStatesOfDistance() {
        Due.about("A state not in 0 to 15 is BAD_STATE (false for booleans).");
        MachineTwins x = Machines.chain(0);
        for (int bad : Machines.BAD_STATES) {
            Due.is("distance(" + bad + ", 0)", x.distance(bad, 0), BAD_STATE);
            Due.is("distance(0, " + bad + ")", x.distance(0, bad), BAD_STATE);
            Due.is("distance(" + bad + ", 15)", x.distance(bad, 15), BAD_STATE);
            Due.is("distance(15, " + bad + ")", x.distance(15, bad), BAD_STATE);
            Due.is("distance(" + bad + ", " + bad + ")", x.distance(bad, bad), BAD_STATE);
        }
    }

    private static void badStatesOfTeller() {
        Due.about("A state not in 0 to 15 is BAD_STATE (false for booleans).");
        MachineTwins x = Machines.chain(0);
        for (int bad : Machines.BAD_STATES) {
            Due.is("teller(" + bad + ", 0, 0)", x.teller(bad, 0, 0), BAD_STATE);
            Due.is("teller(0, " + bad + ", 0)", x.teller(0, bad, 0), BAD_STATE);
            Due.is("teller(" + bad + ", 15, 0)", x.teller(bad, 15, 0), BAD_STATE);
            Due.is("teller(15, " + bad + ", 0)", x.teller(15, bad, 0), BAD_STATE);
            Due.is("teller(" + bad + ", " + bad + ", 0)", x.teller(bad, bad, 0), BAD_STATE);
        }
    }

    private static void badStatesOfReachableKinds() {
        Due.about("A state not in 0 to 15 is BAD_STATE (false for booleans).");
        MachineTwins x = Machines.chain(0);
        for (int bad : Machines.BAD_STATES) {
            Due.is("reachableKinds(" + bad + ")", x.reachableKinds(bad), BAD_STATE);
        }
        Due.is("reachableKinds(0)", x.reachableKinds(0), 16);
        Due.is("reachableKinds(15)", x.reachableKinds(15), 1);
    }

    private static void badStatesOfRun() {
        Due.about("A state not in 0 to 15 is BAD_STATE (false for booleans).");
        MachineTwins x = Machines.chain(0);
        for (int bad : Machines.BAD_STATES) {
            Due.is("run(" + bad + ", 0, 0)", x.run(bad, 0, 0), BAD_STATE);
            Due.is("run(" + bad + ", 0, 10)", x.run(bad, 0, 10), BAD_STATE);
        }
        Due.is("run(0, 0, 1)", x.run(0, 0, 1), 1);
        Due.is("run(15, 0, 1)", x.run(15, 0, 1), 15);
    }

    // Promise 1

    private static void aNewObject() {
        Due.about("Every next state is the state itself, every output 0.");
        MachineTwins x = new MachineTwins();
        for (int state = 0; state < 16; state++) {
            for (int input = 0; input < 3; input++) {
                String call = "transition(" + state + ", " + input + ", 127)";
                Due.is(call, x.transition(state, input, 127), state);
            }
        }
    }

    // Promise 2

    private static void bitsOfTo() {
        Due.about("the next state is to & 15, the output (to >> 4) & 7");
        for (int input = 0; input < 3; input++) {
            MachineTwins x = new MachineTwins();
            int old = 15;
            for (int to = 0; to < 128; to++) {
                Due.is("transition(15, " + input + ", " + to + ")", x.transition(15, input, to), old);
                Due.is("run(15, " + input + ", 1) behind " + to, x.run(15, input, 1), to % 16);
                Due.is("alike(15, 0) behind " + to, x.alike(15, 0), to < 16);
                old = to;
            }
        }
    }

    private static void otherBitsOfTo() {
        Due.about("other bits of 'to' are not looked at");
        int[] tos = {128, 129, 255, 256, 1 << 30, MAX, MIN, MIN + 1, -1, -2, -16, -17, -127, -128, -129, 1024 + 67};
        int[] seen = {0, 1, 127, 0, 0, 127, 0, 1, 127, 126, 112, 111, 1, 0, 127, 67};
        MachineTwins x = new MachineTwins();
        int old = 15;
        for (int k = 0; k < tos.length; k++) {
            Due.is("transition(15, 2, " + tos[k] + ")", x.transition(15, 2, tos[k]), old);
            Due.is("run(15, 2, 1) behind " + tos[k], x.run(15, 2, 1), seen[k] % 16);
            Due.is("alike(15, 0) behind " + tos[k], x.alike(15, 0), seen[k] < 16);
            old = seen[k];
        }
        Due.is("the last transition", x.transition(15, 2, 0), old);
    }

    private static void transitionBadState() {
        Due.about("state not in 0 to 15: BAD_STATE");
        MachineTwins x = new MachineTwins();
        for (int bad : Machines.BAD_STATES) {
            Due.is("transition(" + bad + ", 0, 16)", x.transition(bad, 0, 16), BAD_STATE);
            Due.is("transition(" + bad + ", 2, 16)", x.transition(bad, 2, 16), BAD_STATE);
        }
    }

    private static void transitionBadInput() {
        Due.about("input not in 0 to 2: BAD_INPUT");
        MachineTwins x = new MachineTwins();
        for (int bad : Machines.BAD_INPUTS) {
            Due.is("transition(0, " + bad + ", 16)", x.transition(0, bad, 16), BAD_INPUT);
            Due.is("transition(7, " + bad + ", 16)", x.transition(7, bad, 16), BAD_INPUT);
            Due.is("transition(15, " + bad + ", 16)", x.transition(15, bad, 16), BAD_INPUT);
        }
    }

    private static void transitionRefusedChangesNothing() {
        Due.about("BAD_INPUT; nothing changes then. Else answers the old one");
        MachineTwins x = Machines.full();
        for (int bad : Machines.BAD_STATES) {
            for (int input = -1; input <= 3; input++) {
                x.transition(bad, input, 0);
            }
        }
        for (int bad : Machines.BAD_INPUTS) {
            for (int state = 0; state < 16; state++) {
                x.transition(state, bad, 0);
            }
        }
        Machines.isStillFull("refused transitions", x);
    }

    private static void transitionAnswersTheOldOne() {
        Due.about("Else answers the old one as next + 16 * output.");
        MachineTwins x = new MachineTwins();
        Due.is("the greatest: transition(0, 0, 127)", x.transition(0, 0, 127), 0);
        Due.is("set again: transition(0, 0, 127)", x.transition(0, 0, 127), 127);
        Due.is("the least: transition(0, 0, 0)", x.transition(0, 0, 0), 127);
        Due.is("next alone: transition(0, 0, 15)", x.transition(0, 0, 15), 0);
        Due.is("output alone: transition(0, 0, 112)", x.transition(0, 0, 112), 15);
        Due.is("the last: transition(0, 0, 0)", x.transition(0, 0, 0), 112);
    }

    // Promise 3

    private static void exchangeAtTheEdges() {
        Due.about("Exchanges the outputs of two states for an input.");
        for (int input = 0; input < 3; input++) {
            MachineTwins x = Machines.full();
            x.transition(0, input, Machines.to(3, 7));
            x.transition(15, input, Machines.to(4, 0));
            x.exchange(0, 15, input);
            for (int other = 0; other < 3; other++) {
                int first = other == input ? 3 : Machines.fullPlace(0, other);
                int last = other == input ? Machines.to(4, 7) : Machines.fullPlace(15, other);
                Due.is("input " + input + ": transition(0, " + other + ", 0)", x.transition(0, other, 0), first);
                Due.is("input " + input + ": transition(15, " + other + ", 0)", x.transition(15, other, 0), last);
            }
        }
        MachineTwins same = Machines.full();
        for (int state = 0; state < 16; state++) {
            for (int input = 0; input < 3; input++) {
                same.exchange(state, state, input);
            }
        }
        Machines.isStillFull("states exchanged with themselves", same);
    }

    private static void exchangeBadState() {
        Due.about("A state not in 0 to 15: BAD_STATE");
        MachineTwins x = new MachineTwins();
        for (int bad : Machines.BAD_STATES) {
            Due.is("exchange(" + bad + ", 0, 0)", x.exchange(bad, 0, 0), BAD_STATE);
            Due.is("exchange(0, " + bad + ", 0)", x.exchange(0, bad, 0), BAD_STATE);
            Due.is("exchange(" + bad + ", 15, 2)", x.exchange(bad, 15, 2), BAD_STATE);
            Due.is("exchange(15, " + bad + ", 2)", x.exchange(15, bad, 2), BAD_STATE);
            Due.is("exchange(" + bad + ", " + bad + ", 1)", x.exchange(bad, bad, 1), BAD_STATE);
        }
    }

    private static void exchangeBadInput() {
        Due.about("BAD_INPUT; nothing changes then. Else answers 0.");
        MachineTwins x = new MachineTwins();
        for (int bad : Machines.BAD_INPUTS) {
            Due.is("exchange(0, 15, " + bad + ")", x.exchange(0, 15, bad), BAD_INPUT);
            Due.is("exchange(15, 0, " + bad + ")", x.exchange(15, 0, bad), BAD_INPUT);
            Due.is("exchange(7, 7, " + bad + ")", x.exchange(7, 7, bad), BAD_INPUT);
        }
    }

    private static void exchangeRefusedChangesNothing() {
        Due.about("nothing changes then. Else answers 0.");
        MachineTwins x = Machines.full();
        for (int bad : Machines.BAD_STATES) {
            for (int input = -1; input <= 3; input++) {
                x.exchange(bad, 1, input);
                x.exchange(1, bad, input);
            }
        }
        for (int bad : Machines.BAD_INPUTS) {
            for (int state = 0; state < 16; state++) {
                x.exchange(state, 15 - state, bad);
            }
        }
        Machines.isStillFull("refused exchanges", x);
    }

    private static void exchangeAnswersNought() {
        Due.about("Else answers 0.");
        MachineTwins x = Machines.full();
        x.transition(0, 0, Machines.to(0, 7));
        x.transition(15, 0, Machines.to(15, 7));
        x.transition(8, 0, Machines.to(8, 0));
        Due.is("equal outputs: exchange(0, 15, 0)", x.exchange(0, 15, 0), 0);
        Due.is("other outputs: exchange(0, 8, 0)", x.exchange(0, 8, 0), 0);
        Due.is("back again: exchange(8, 0, 0)", x.exchange(8, 0, 0), 0);
        Due.is("with itself: exchange(15, 15, 0)", x.exchange(15, 15, 0), 0);
        Due.is("0 is as before", x.transition(0, 0, 0), Machines.to(0, 7));
        Due.is("8 is as before", x.transition(8, 0, 0), 8);
        Due.is("15 is as before", x.transition(15, 0, 0), Machines.to(15, 7));
    }

    // Promise 5

    private static void distanceShortestAndLongest() {
        Due.about("The length of the shortest word that tells a and b apart");
        for (int mover = 0; mover < 3; mover++) {
            MachineTwins x = Machines.chain(mover);
            Due.is("chain " + mover + ": distance(15, 0)", x.distance(15, 0), 1);
            Due.is("chain " + mover + ": distance(15, 14)", x.distance(15, 14), 1);
            Due.is("chain " + mover + ": distance(0, 1)", x.distance(0, 1), 15);
            Due.is("chain " + mover + ": distance(1, 0)", x.distance(1, 0), 15);
        }
    }

    private static void distanceNone() {
        Due.about("NONE if they are alike");
        MachineTwins x = Machines.chain(1);
        for (int state = 0; state < 16; state++) {
            Due.is("distance(" + state + ", " + state + ")", x.distance(state, state), NONE);
        }
        x.transition(15, 1, 15);
        Due.is("the last output taken away: distance(0, 15)", x.distance(0, 15), NONE);
        Due.is("the last output taken away: distance(15, 14)", x.distance(15, 14), NONE);
    }

    // Promise 6

    private static void tellerFromNought() {
        Due.about("its input number i, from 0");
        for (int mover = 0; mover < 3; mover++) {
            MachineTwins x = Machines.chain(mover);
            for (int i = 0; i < 15; i++) {
                Due.is("chain " + mover + ": teller(0, 1, " + i + ")", x.teller(0, 1, i), mover);
                Due.is("chain " + mover + ": teller(1, 0, " + i + ")", x.teller(1, 0, i), mover);
            }
            Due.is("chain " + mover + ": teller(15, 14, 0)", x.teller(15, 14, 0), mover);
        }
    }

    private static void tellerNoneIfAlike() {
        Due.about("NONE if they are alike or the word is shorter.");
        MachineTwins x = new MachineTwins();
        int[] places = {0, 1, 14, 15, MAX};
        for (int i : places) {
            Due.is("a new object: teller(0, 15, " + i + ")", x.teller(0, 15, i), NONE);
            Due.is("a new object: teller(7, 7, " + i + ")", x.teller(7, 7, i), NONE);
            Due.is("the chain: teller(7, 7, " + i + ")", Machines.chain(1).teller(7, 7, i), NONE);
        }
    }

    private static void tellerNoneBehindTheWord() {
        Due.about("NONE if they are alike or the word is shorter.");
        MachineTwins x = Machines.chain(1);
        for (int state = 0; state < 15; state++) {
            int length = 15 - state;
            String both = "(" + state + ", " + (state + 1) + ", ";
            Due.is("teller" + both + (length - 1) + ")", x.teller(state, state + 1, length - 1), 1);
            Due.is("teller" + both + length + ")", x.teller(state, state + 1, length), NONE);
            Due.is("teller" + both + (length + 1) + ")", x.teller(state, state + 1, length + 1), NONE);
            Due.is("teller" + both + MAX + ")", x.teller(state, state + 1, MAX), NONE);
        }
    }

    // Promise 7

    private static void kindBadState() {
        Due.about("The state's kind; BAD_STATE.");
        MachineTwins x = Machines.chain(0);
        for (int bad : Machines.BAD_STATES) {
            Due.is("kind(" + bad + ")", x.kind(bad), BAD_STATE);
        }
        Due.is("kind(0)", x.kind(0), 0);
        Due.is("kind(15)", x.kind(15), 15);
    }

    // Promise 8

    private static void fewestAndMostKinds() {
        Due.about("How many kinds there are.");
        Due.is("a new object: kinds()", new MachineTwins().kinds(), 1);
        MachineTwins x = Machines.chain(0);
        Due.is("the chain: kinds()", x.kinds(), 16);
        x.transition(0, 0, 2);
        Due.is("0 and 1 alike: kinds()", x.kinds(), 15);
        x.transition(15, 0, 15);
        Due.is("no output left: kinds()", x.kinds(), 1);
        x.transition(15, 0, Machines.to(0, 7));
        Due.is("a ring with one output: kinds()", x.kinds(), 15);
        x.transition(0, 0, 1);
        Due.is("the whole ring: kinds()", x.kinds(), 16);
    }

    // Promise 9

    private static void reachableItselfCountedIn() {
        Due.about("How many kinds the states have that can be come to from this one (itself counted in).");
        MachineTwins x = new MachineTwins();
        // No word leads back to 0, and only 0 has an output.
        for (int input = 0; input < 3; input++) {
            x.transition(0, input, Machines.to(1, 7));
        }
        Due.is("0 and 1: reachableKinds(0)", x.reachableKinds(0), 2);
        Due.is("1 alone: reachableKinds(1)", x.reachableKinds(1), 1);
        for (int input = 0; input < 3; input++) {
            x.transition(0, input, 1);
        }
        Due.is("0 and 1 are alike: reachableKinds(0)", x.reachableKinds(0), 1);
    }

    private static void fewestAndMostReachableKinds() {
        Due.about("How many kinds the states have that can be come to from this one (itself counted in).");
        MachineTwins quiet = new MachineTwins();
        for (int mover = 0; mover < 3; mover++) {
            MachineTwins chain = Machines.chain(mover);
            MachineTwins ring = Machines.chain(mover);
            ring.transition(15, mover, Machines.to(0, 1));
            for (int state = 0; state < 16; state++) {
                String call = "reachableKinds(" + state + ")";
                Due.is("a new object: " + call, quiet.reachableKinds(state), 1);
                Due.is("chain " + mover + ": " + call, chain.reachableKinds(state), 16 - state);
                Due.is("ring " + mover + ": " + call, ring.reachableKinds(state), 16);
            }
        }
    }

    // Promise 10

    private static void depthLeastAndGreatest() {
        Due.about("The length of the longest of the shortest words that tell two states apart");
        for (int mover = 0; mover < 3; mover++) {
            Due.is("chain " + mover + ": depth()", Machines.chain(mover).depth(), 15);
        }
        MachineTwins x = new MachineTwins();
        x.transition(15, 2, Machines.to(15, 1));
        Due.is("15 apart from the others: depth()", x.depth(), 1);
        x.transition(14, 0, 15);
        Due.is("14 comes to 15: depth()", x.depth(), 2);
    }

    private static void depthWithoutPairs() {
        Due.about("over all pairs that are not alike; 0 if there are none");
        MachineTwins x = new MachineTwins();
        Due.is("a new object: depth()", x.depth(), 0);
        for (int state = 0; state < 16; state++) {
            for (int input = 0; input < 3; input++) {
                x.transition(state, input, Machines.to(15 - state, 7 - input));
            }
        }
        Due.is("the same outputs everywhere: depth()", x.depth(), 0);
        x.transition(15, 2, Machines.to(0, 4));
        Due.is("one other output: depth()", x.depth(), 2);
        x.transition(15, 2, Machines.to(0, 5));
        Due.is("taken back: depth()", x.depth(), 0);
    }

    // Promise 11

    private static void runNoInput() {
        Due.about("input i is (word >> (2 * i)) & 3 for i from 0 to n - 1");
        MachineTwins x = Machines.full();
        int[] words = {0, 1, 2, 3, -1, MIN, MAX};
        for (int word : words) {
            for (int state = 0; state < 16; state++) {
                Due.is("run(" + state + ", " + word + ", 0)", x.run(state, word, 0), state);
            }
            // The bits behind the first input are not looked at.
            int input = word & 3;
            int next = Machines.fullPlace(15, input % 3) % 16;
            Due.is("run(15, " + word + ", 1)", x.run(15, word, 1), next);
        }
    }

    private static void runTenInputs() {
        Due.about("The state that a word of up to ten inputs leads to from a state");
        MachineTwins x = Machines.chain(0);
        int ones = 0x55555;
        for (int n = 0; n <= 10; n++) {
            Due.is("run(0, 0, " + n + ")", x.run(0, 0, n), n);
            Due.is("run(0, ones, " + n + ")", x.run(0, ones, n), 0);
        }
        Due.is("to the chain's end: run(5, 0, 10)", x.run(5, 0, 10), 15);
        Due.is("held at the chain's end: run(6, 0, 10)", x.run(6, 0, 10), 15);
        Due.is("the tenth input: run(0, 1 << 18, 10)", x.run(0, 1 << 18, 10), 9);
        Due.is("the tenth input: run(0, 2 << 18, 10)", x.run(0, 2 << 18, 10), 9);
        Due.is("no eleventh: run(0, 1 << 20, 10)", x.run(0, 1 << 20, 10), 10);
        Due.is("no eleventh: run(0, 2 << 20, 10)", x.run(0, 2 << 20, 10), 10);
        Due.is("no sixteenth: run(0, MIN, 10)", x.run(0, MIN, 10), 10);
    }

    private static void runThreeCountsAsNought() {
        Due.about("3 counting as 0");
        int ones = 0x55555;
        for (int mover = 0; mover < 3; mover++) {
            MachineTwins x = Machines.chain(mover);
            int moved = mover == 0 ? 1 : 0;
            int others = mover == 1 ? 9 : 0;
            for (int i = 0; i < 10; i++) {
                int word = ones | (3 << (2 * i));
                String call = "chain " + mover + ", a 3 at " + i + ": run(0, " + word + ", 10)";
                Due.is(call, x.run(0, word, 10), moved + others);
            }
            Due.is("chain " + mover + ": run(0, -1, 10)", x.run(0, -1, 10), 10 * moved);
            Due.is("chain " + mover + ": run(0, MAX, 10)", x.run(0, MAX, 10), 10 * moved);
        }
    }

    private static void runBadInput() {
        Due.about("n not in 0 to 10: BAD_INPUT");
        MachineTwins x = Machines.chain(0);
        int[] outside = {-1, 11, 12, 16, 32, -10, MIN, MAX};
        for (int n : outside) {
            Due.is("run(0, 0, " + n + ")", x.run(0, 0, n), BAD_INPUT);
            Due.is("run(15, -1, " + n + ")", x.run(15, -1, n), BAD_INPUT);
        }
        Due.is("run(0, 0, 0)", x.run(0, 0, 0), 0);
        Due.is("run(0, 0, 10)", x.run(0, 0, 10), 10);
    }

    private static void runBadStateFirst() {
        Due.about("BAD_INPUT, tested after BAD_STATE");
        MachineTwins x = Machines.chain(0);
        int[] outside = {-1, 11, MIN, MAX};
        for (int n : outside) {
            for (int bad : Machines.BAD_STATES) {
                Due.is("run(" + bad + ", 0, " + n + ")", x.run(bad, 0, n), BAD_STATE);
            }
        }
    }

    // Promise 12

    private static void changesBadStateFirst() {
        Due.about("transition and exchange: BAD_STATE is tested before BAD_INPUT.");
        for (int input : Machines.BAD_INPUTS) {
            MachineTwins x = new MachineTwins();
            for (int bad : Machines.BAD_STATES) {
                Due.is("transition(" + bad + ", " + input + ", 0)", x.transition(bad, input, 0), BAD_STATE);
                Due.is("exchange(" + bad + ", 0, " + input + ")", x.exchange(bad, 0, input), BAD_STATE);
                Due.is("exchange(0, " + bad + ", " + input + ")", x.exchange(0, bad, input), BAD_STATE);
                Due.is("exchange(" + bad + ", " + bad + ", " + input + ")", x.exchange(bad, bad, input), BAD_STATE);
            }
        }
    }

    private static void tellerBadStateFirst() {
        Due.about("teller: BAD_STATE is tested first");
        MachineTwins x = Machines.chain(0);
        int[] outside = {-1, 15, 16, MIN, MAX};
        for (int i : outside) {
            for (int bad : Machines.BAD_STATES) {
                Due.is("teller(" + bad + ", 0, " + i + ")", x.teller(bad, 0, i), BAD_STATE);
                Due.is("teller(0, " + bad + ", " + i + ")", x.teller(0, bad, i), BAD_STATE);
                Due.is("teller(" + bad + ", " + bad + ", " + i + ")", x.teller(bad, bad, i), BAD_STATE);
            }
        }
    }

    private static void tellerBelowNought() {
        Due.about("NONE also if i is below 0.");
        MachineTwins x = Machines.chain(2);
        int[] below = {-1, -2, -15, -16, MIN};
        for (int i : below) {
            Due.is("teller(0, 1, " + i + ")", x.teller(0, 1, i), NONE);
            Due.is("teller(14, 15, " + i + ")", x.teller(14, 15, i), NONE);
            Due.is("alike: teller(3, 3, " + i + ")", x.teller(3, 3, i), NONE);
        }
    }

    private static void badOutputIsNeverAnswered() {
        Due.about("BAD_OUTPUT is answered by no call.");
        int[] numbers = {MIN, -5, -4, -3, -2, -1, 0, 1, 2, 3, 7, 8, 10, 11, 14, 15, 16, 127, 128, MAX};
        for (int a : numbers) {
            for (int b : numbers) {
                MachineTwins x = Machines.chain(0);
                Due.is("distance(" + a + ", " + b + ")", x.distance(a, b) == BAD_OUTPUT, false);
                Due.is("kind(" + a + ")", x.kind(a) == BAD_OUTPUT, false);
                Due.is("reachableKinds(" + a + ")", x.reachableKinds(a) == BAD_OUTPUT, false);
                for (int c : numbers) {
                    callsOfThree("(" + a + ", " + b + ", " + c + ")", x, a, b, c);
                }
            }
        }
    }

    private static void callsOfThree(String of, MachineTwins x, int a, int b, int c) {
        Due.is("teller" + of, x.teller(a, b, c) == BAD_OUTPUT, false);
        Due.is("run" + of, x.run(a, b, c) == BAD_OUTPUT, false);
        Due.is("exchange" + of, x.exchange(a, b, c) == BAD_OUTPUT, false);
        Due.is("transition" + of, x.transition(a, b, c) == BAD_OUTPUT, false);
        Due.is("kinds()", x.kinds() == BAD_OUTPUT, false);
        Due.is("depth()", x.depth() == BAD_OUTPUT, false);
    }
}
