import java.util.ArrayList;
import java.util.List;

/** All promises: every call with every number that is an end of something, on the program and on the model. */
public final class EndsTest {
    /** The calls on one object, beside those that bring it into its state. */
    private static final int CALLS = 250;
    private static final int[] DIES = {Integer.MIN_VALUE, -1, 0, 1, 14, 15, 16, 17, 30, 31, 32, Integer.MAX_VALUE};
    private static final int[] COINS = {Integer.MIN_VALUE, -1, 0, 3, 10, 11, 12, 78, 79, 80, Integer.MAX_VALUE};
    private static final int[] HOARDS = {Integer.MIN_VALUE, -1, 0, 1, 2, 3, 7, 8, Integer.MAX_VALUE};
    private static final int[] PARTS = {Integer.MIN_VALUE, -1, 0, 1, 2, Integer.MAX_VALUE};
    private static final int[] STAGES = {Integer.MIN_VALUE, -2, -1, 0, 1, 8, 9, 10, Integer.MAX_VALUE};
    private static final int[] WEIGHTS = {Integer.MIN_VALUE, -1, 0, 1, 2, 999999, 1000000, 1000001, Integer.MAX_VALUE};
    private static final int[] PLACES = {Integer.MIN_VALUE, -1, 0, 1, 2, 3, 15, 16, 31, 32, 33, 78, 79, 80,
        Integer.MAX_VALUE};
    private static final int[] COUNTS = {Integer.MIN_VALUE, -1, 0, 1, 2, 3, 4, 5, 6, Integer.MAX_VALUE};
    private static final int[] WORDS = {Integer.MIN_VALUE, -1, 0, 1, 0x313a, 0x2c78, Integer.MAX_VALUE};
    private static final int[] YES_NO = {0, 1};

    public static void main(String[] args) {
        State some = State.some();
        State text = some.and(" and a text", Step.textOf("o1,x:9"));
        for (State state : List.of(State.empty(), some, text, State.full())) {
            all(state, "coin", DIES, DIES, WEIGHTS);
            all(state, "doubt", COINS, YES_NO);
            all(state, "wear", COINS, PARTS, STAGES);
            all(state, "row", DIES, DIES);
            all(state, "ring", PLACES);
            all(state, "order", DIES, DIES);
            all(state, "chain", DIES);
            all(state, "chains");
            all(state, "dies", PARTS, PARTS);
            all(state, "mean", DIES, PARTS);
            all(state, "hoard");
            all(state, "into", HOARDS, COINS);
            all(state, "overlap", HOARDS, HOARDS, PARTS);
            all(state, "linked", COINS, PLACES);
            all(state, "unit", WORDS, WORDS, WORDS, WORDS);
            all(state, "rule");
            all(state, "type", COINS);
            all(state, "count", COUNTS);
        }
        Check.done();
    }

    private static void all(State state, String name, int[]... ends) {
        List<Step> steps = new ArrayList<>();
        gather(steps, name, ends, new int[ends.length], 0);
        DieGraphs program = state.made();
        Model model = state.model();
        for (int i = 0; i < steps.size(); i++) {
            if (i % CALLS == 0) {
                program = state.made();
                model = state.model();
            }
            Step step = steps.get(i);
            Check.same(step + " on " + state.name, step.on(program), step.on(model));
        }
    }

    private static void gather(List<Step> steps, String name, int[][] ends, int[] chosen, int place) {
        if (place == ends.length) {
            steps.add(Step.of(name, chosen.clone()));
            return;
        }
        for (int end : ends[place]) {
            chosen[place] = end;
            gather(steps, name, ends, chosen, place + 1);
        }
    }
}
