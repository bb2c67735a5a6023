import java.util.List;

/** 'Such a call changes nothing': of each refused call its exception, and that all later answers stay as they were. */
public final class RefusedTest {
    private static final int FOLLOWING = 250;
    private static final int SEEDS = 4;
    private static final int LEAST = Integer.MIN_VALUE;
    private static final int MOST = Integer.MAX_VALUE;
    private static final String INDEX = "IndexOutOfBoundsException";
    private static final String ARGUMENT = "IllegalArgumentException";
    private static final String STATE = "IllegalStateException";

    public static void main(String[] args) {
        for (State state : states()) {
            noSuchDie(state);
            noSuchCoin(state);
            noSuchHoard(state);
            noSuchSidePlaceOrPart(state);
            noSuchCount(state);
            wrongArguments(state);
        }
        noRoom();
        noRoomForSigns();
        rings();
        textsThatAreNoRules();
        whatIsSoAlready();
        questions();
        Check.done();
    }

    private static List<State> states() {
        return List.of(State.empty(), State.some(), State.some().and(" and a text", Step.textOf("o1,x")), State.full());
    }

    private static void noSuchDie(State state) {
        for (int die : new int[] {-1, 16, LEAST, MOST}) {
            refused(state, Step.of("coin", die, 16, 1), INDEX);
        }
        for (int die : new int[] {15, 32, LEAST, MOST}) {
            refused(state, Step.of("coin", 0, die, 1), INDEX);
        }
        for (int die : new int[] {-1, 32, LEAST, MOST}) {
            refused(state, Step.of("row", die, 0), INDEX);
            refused(state, Step.of("row", 31, die), INDEX);
            refused(state, Step.of("order", die, 0), INDEX);
            refused(state, Step.of("order", 31, die), INDEX);
            refused(state, Step.of("chain", die), INDEX);
            refused(state, Step.of("mean", die, 0), INDEX);
        }
    }

    private static void noSuchCoin(State state) {
        for (int coin : new int[] {-1, state.coins, LEAST, MOST}) {
            refused(state, Step.of("doubt", coin, 1), INDEX);
            refused(state, Step.of("doubt", coin, 0), INDEX);
            refused(state, Step.of("wear", coin, 0, 5), INDEX);
            refused(state, Step.of("into", 0, coin), INDEX);
            refused(state, Step.of("linked", coin, 0), INDEX);
            refused(state, Step.of("type", coin), INDEX);
        }
    }

    private static void noSuchHoard(State state) {
        for (int hoard : new int[] {-1, state.hoards, LEAST, MOST}) {
            refused(state, Step.of("into", hoard, 0), INDEX);
            refused(state, Step.of("overlap", hoard, 0, 0), INDEX);
            refused(state, Step.of("overlap", 0, hoard, 0), INDEX);
        }
    }

    private static void noSuchSidePlaceOrPart(State state) {
        for (int none : new int[] {-1, 2, LEAST, MOST}) {
            refused(state, Step.of("wear", 0, none, 5), INDEX);
            refused(state, Step.of("dies", none, 0), INDEX);
            refused(state, Step.of("dies", 0, none), INDEX);
            refused(state, Step.of("mean", 0, none), INDEX);
            refused(state, Step.of("overlap", 0, 0, none), INDEX);
        }
        for (int place : new int[] {-1, LEAST}) {
            refused(state, Step.of("ring", place), INDEX);
            refused(state, Step.of("linked", 0, place), INDEX);
        }
    }

    private static void noSuchCount(State state) {
        for (int what : new int[] {-1, 6, LEAST, MOST}) {
            refused(state, Step.of("count", what), INDEX);
        }
    }

    private static void wrongArguments(State state) {
        for (int milligrams : new int[] {0, 1000001, -1, LEAST, MOST}) {
            refused(state, Step.of("coin", 0, 16, milligrams), ARGUMENT);
        }
        for (int stage : new int[] {-2, 10, LEAST, MOST}) {
            String due = state.coins == 0 ? INDEX : ARGUMENT;
            refused(state, Step.of("wear", 0, 0, stage), due);
            refused(state, Step.of("wear", state.coins - 1, 1, stage), due);
        }
        refused(state, Step.of("row", 15, 16), ARGUMENT);
        refused(state, Step.of("row", 31, 0), ARGUMENT);
        refused(state, Step.of("order", 15, 16), ARGUMENT);
        refused(state, Step.of("order", 31, 0), ARGUMENT);
    }

    private static void noRoom() {
        State full = State.full();
        refused(full, Step.of("coin", 15, 31, 1000000), STATE);
        refused(full, Step.of("row", 0, 15), STATE);
        refused(full, Step.of("row", 15, 0), STATE);
        refused(full, Step.of("row", 4, 4), STATE);
        refused(full, Step.of("hoard"), STATE);
        refused(full, Step.of("rule"), STATE);
        for (int place = 0; place < 4; place++) {
            int[] words = new int[4];
            words[place] = 0x78 << 8 * place;
            refused(full, Step.of("unit", words), STATE);
        }
    }

    /** None of the signs is taken, not even those for which there would be room. */
    private static void noRoomForSigns() {
        State thirtyFive = State.some().and(" and 35 signs", Step.textOf("x,x,x,x,x,x,x,x,x,x,x,x,x,x,x,x,x,x"));
        refused(thirtyFive, Step.of("unit", 0x3a782c78, 0, 0, 0x3231), STATE);
        refused(thirtyFive, Step.of("unit", 0x3a, 0x31, 0x32, 0x33343536), STATE);
        refused(thirtyFive, Step.of("unit", -1, -1, -1, -1), STATE);
    }

    /** Where there would be a ring, nothing changes but that it is told. */
    private static void rings() {
        State some = State.some();
        goesOnAlike(some, List.of(Step.of("row", 4, 0)), "0", false);
        goesOnAlike(some, List.of(Step.of("row", 7, 7)), "0", false);
        goesOnAlike(some, List.of(Step.of("row", 19, 16)), "0", false);
        goesOnAlike(some, List.of(Step.of("wear", 11, 0, 1)), "0", false);
        goesOnAlike(some, List.of(Step.of("doubt", 10, 0)), "0", false);
    }

    /** A text that is no rule leaves an empty one, and the rules as they were. */
    private static void textsThatAreNoRules() {
        for (State state : List.of(State.empty(), State.some())) {
            goesOnAlike(state, Step.ruleOf(""), "-1", true);
            goesOnAlike(state, Step.ruleOf("?"), "-1", true);
            goesOnAlike(state, Step.ruleOf("o1,r2,<3,>4,x"), "-14", true);
            goesOnAlike(state, Step.ruleOf("o1:12345678"), "-11", true);
            goesOnAlike(state, Step.ruleOf("x,x,x,x,x,x,x,x,x,x,x,x,x,x,x,x,x,x,x,x,"), "-41", true);
        }
    }

    private static void whatIsSoAlready() {
        State some = State.some();
        goesOnAlike(some, List.of(Step.of("doubt", 3, 1)), "0", true);
        goesOnAlike(some, List.of(Step.of("doubt", 4, 0)), "0", true);
        goesOnAlike(some, List.of(Step.of("into", 1, 1)), "0", true);
        goesOnAlike(some, List.of(Step.of("wear", 1, 0, 3)), "1", true);
        goesOnAlike(some, List.of(Step.of("unit", 0, 0, 0, 0)), "0", true);
    }

    private static void questions() {
        State some = State.some();
        goesOnAlike(some, List.of(Step.of("ring", 0)), "0", true);
        goesOnAlike(some, List.of(Step.of("order", 0, 4)), "-1", true);
        goesOnAlike(some, List.of(Step.of("chain", 19)), "0", true);
        goesOnAlike(some, List.of(Step.of("chains")), "1", true);
        goesOnAlike(some, List.of(Step.of("dies", 0, 1)), "9", true);
        goesOnAlike(some, List.of(Step.of("mean", 31, 1)), "1", true);
        goesOnAlike(some, List.of(Step.of("overlap", 2, 2, 0)), "1", true);
        goesOnAlike(some, List.of(Step.of("linked", 0, 0)), "4", true);
        goesOnAlike(some, List.of(Step.of("type", 0)), "7", true);
        goesOnAlike(some, List.of(Step.of("count", 2)), "4", true);
    }

    private static void refused(State state, Step step, String due) {
        goesOnAlike(state, List.of(step), due, true);
    }

    /** After the steps, of which the last one's answer is due, an object goes on like one that did not have them. */
    private static void goesOnAlike(State state, List<Step> steps, String due, boolean withRings) {
        for (int seed = 0; seed < SEEDS; seed++) {
            DieGraphs x = state.made();
            DieGraphs y = state.made();
            String what = steps + " on " + state.name;
            Check.same(what, Step.all(steps, x), due);
            for (Step step : state.followedBy(seed, FOLLOWING, withRings)) {
                String got = step.on(x);
                String kept = step.on(y);
                if (!got.equals(kept)) {
                    Check.same(step + " after " + what, got, kept);
                    break;
                }
            }
        }
    }
}
