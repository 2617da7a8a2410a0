import java.util.ArrayList;
import java.util.List;
import java.util.function.Supplier;

/**
 * All that can be seen of an object's state, now and in what later calls do, as a row of texts.
 * Each group of questions goes to an object made anew, so that none has more than 512 calls and no
 * question is answered only because another one was asked before.
 */
final class State {
    private final Supplier<PackingCensus> making;
    private final List<String> answers = new ArrayList<>();

    private State(Supplier<PackingCensus> making) {
        this.making = making;
    }

    static List<String> of(Supplier<PackingCensus> making) {
        State state = new State(making);
        state.lookAtCensus();
        state.lookAtEntries();
        state.lookAtHand();
        state.lookAtWhatPutTakes();
        state.lookAtWhatSwapTakes();
        state.lookAtGrowing();
        return state.answers;
    }

    /** The most telling part, from one object, which is grown at the end. */
    static List<String> inBrief(Supplier<PackingCensus> making) {
        PackingCensus x = making.get();
        State state = new State(() -> x);
        state.lookAtCensus();
        state.lookAtEntry(x, 0);
        state.lookAtEntry(x, x.entries() - 1);
        state.sayHand(x);
        state.lookAtGrowing();
        return state.answers;
    }

    private void say(String call, Object answer) {
        answers.add(call + " " + answer);
    }

    private void lookAtCensus() {
        say("level", making.get().level());
        say("entries", making.get().entries());
        say("labelled", making.get().labelled());
        say("designs", making.get().designs());
        say("symmetries", making.get().symmetries());
        say("find", making.get().find());
    }

    private void lookAtEntries() {
        int end = making.get().entries() + 1;
        for (int i = 0; i <= end; i++) {
            lookAtEntry(making.get(), i);
            PackingCensus x = making.get();
            say("copy " + i, x.copy(i));
            sayHand(x);
        }
    }

    private void lookAtEntry(PackingCensus x, int i) {
        say("order " + i, x.order(i));
        say("design " + i, x.design(i));
        for (int j = 0; j <= 10; j++) {
            say("block " + i + " " + j, x.block(i, j));
        }
        for (int p = 0; p <= 6; p++) {
            say("orbit " + i + " " + p, x.orbit(i, p));
            for (int q = 0; q <= 6; q++) {
                say("together " + i + " " + p + " " + q, x.together(i, p, q));
            }
        }
    }

    private void lookAtHand() {
        sayHand(making.get());
        PackingCensus x = making.get();
        for (int j = 10; j >= 0; j--) {
            say("drop " + j, x.drop(j));
        }
        for (int j = 0; j <= 10; j++) {
            PackingCensus y = making.get();
            say("drop " + j, y.drop(j));
            sayHand(y);
        }
    }

    private void sayHand(PackingCensus x) {
        for (int j = 0; j <= 10; j++) {
            say("hand " + j, x.hand(j));
            say("formed " + j, x.formed(j));
        }
        say("symmetries", x.symmetries());
        say("find", x.find());
    }

    private void lookAtWhatPutTakes() {
        for (int mask = 0; mask < 64; mask++) {
            PackingCensus x = making.get();
            say("put " + mask, x.put(mask));
            sayHand(x);
        }
    }

    private void lookAtWhatSwapTakes() {
        for (int p = 0; p <= 6; p++) {
            PackingCensus x = making.get();
            say("swap 0 " + p, x.swap(0, p));
            sayHand(x);
        }
    }

    private void lookAtGrowing() {
        PackingCensus x = making.get();
        for (int n = 0; n <= 10; n++) {
            say("grow", x.grow());
            say("level", x.level());
            say("entries", x.entries());
            say("labelled", x.labelled());
            say("find", x.find());
            say("first block", x.block(0, n));
            say("last block", x.block(x.entries() - 1, n));
            say("hand", x.hand(0));
        }
    }
}
