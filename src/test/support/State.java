import java.util.ArrayList;
import java.util.List;
import java.util.Random;

/** The calls that bring a new object into a state, and what that state holds then. */
public final class State {
    public final String name;
    public final List<Step> steps;
    public final int coins;
    public final int hoards;

    private State(String name, List<Step> steps, int coins, int hoards) {
        this.name = name;
        this.steps = steps;
        this.coins = coins;
        this.hoards = hoards;
    }

    public static State empty() {
        return new State("the empty object", new ArrayList<>(), 0, 0);
    }

    /** Twelve coins with stages, two of them in doubt, rows, three hoards, three rules and a ring; no text. */
    public static State some() {
        List<Step> steps = new ArrayList<>();
        for (int i = 0; i < 12; i++) {
            steps.add(Step.of("coin", i % 5, 16 + i % 4, 100 + 7 * i));
            steps.add(Step.of("wear", i, 0, i % 4 * 3));
        }
        steps.add(Step.of("doubt", 3, 1));
        steps.add(Step.of("wear", 3, 0, 0));
        steps.add(Step.of("doubt", 10, 1));
        steps.add(Step.of("wear", 10, 0, 1));
        steps.add(Step.of("row", 0, 1));
        steps.add(Step.of("row", 0, 1));
        steps.add(Step.of("row", 1, 4));
        steps.add(Step.of("row", 19, 25));
        steps.add(Step.of("row", 4, 0));
        for (int i = 0; i < 3; i++) {
            steps.add(Step.of("hoard"));
            steps.add(Step.of("into", i, i));
            steps.add(Step.of("into", i, 9 - i));
        }
        steps.addAll(Step.ruleOf("o1,x:5"));
        steps.addAll(Step.ruleOf("<150,r2:6"));
        steps.addAll(Step.ruleOf("o0:0007"));
        return new State("an object with some of each", steps, 12, 3);
    }

    /** As many coins, rows, hoards, rules and signs as there may be, and a ring. */
    public static State full() {
        List<Step> steps = new ArrayList<>();
        for (int i = 0; i < 80; i++) {
            steps.add(Step.of("coin", i % 16, 16 + i / 5, 1000000 - i));
        }
        for (int i = 0; i < 80; i += 3) {
            steps.add(Step.of("doubt", i, 1));
        }
        for (int i = 0; i < 5; i++) {
            steps.add(Step.of("wear", i, 1, 2 * i + i / 4));
        }
        for (int i = 0; i < 60; i++) {
            steps.add(Step.of("row", i % 30 / 15 * 16 + i % 15, i % 30 / 15 * 16 + i % 15 + 1));
            if (i == 20) {
                steps.add(Step.of("row", 3, 1));
            }
        }
        for (int i = 0; i < 8; i++) {
            steps.add(Step.of("hoard"));
            steps.add(Step.of("into", i, i));
            steps.add(Step.of("into", i, 79 - i));
            steps.add(Step.of("into", i, 40));
        }
        for (int i = 0; i < 11; i++) {
            steps.addAll(Step.ruleOf("o" + i + ":" + i));
        }
        steps.addAll(Step.ruleOf("x,r0,r0,r0,r0,r0,<1000001,>0999900,r0:42"));
        steps.addAll(Step.textOf("x,x,x,x,x,x,x,x,x,x,x,x,x,x,x,x,x,x,x:42"));
        return new State("the full object", steps, 80, 8);
    }

    public State and(String more, List<Step> added) {
        List<Step> all = new ArrayList<>(steps);
        all.addAll(added);
        return new State(name + more, all, coins, hoards);
    }

    public DieGraphs made() {
        DieGraphs x = new DieGraphs();
        Step.all(steps, x);
        return x;
    }

    public Model model() {
        Model model = new Model();
        Step.all(steps, model);
        return model;
    }

    /** Calls of all kinds that bring out what an object in this state, or in one like it, holds. */
    public List<Step> followedBy(int seed, int calls, boolean withRings) {
        Random random = new Random(seed);
        List<Step> found = new ArrayList<>();
        while (found.size() < calls) {
            found.add(anyStep(random, withRings));
        }
        return found;
    }

    private Step anyStep(Random random, boolean withRings) {
        int coin = random.nextInt(coins + 1);
        int a = random.nextInt(hoards + 1);
        int b = random.nextInt(hoards + 1);
        int side = random.nextInt(2);
        int part = random.nextInt(2);
        int die = side * 16 + random.nextInt(16);
        int other = side * 16 + random.nextInt(16);
        int few = random.nextInt(6);
        switch (random.nextInt(18)) {
            case 0:
                return Step.of("coin", random.nextInt(16), 16 + random.nextInt(16), 1 + random.nextInt(1000));
            case 1:
                return Step.of("doubt", coin, part);
            case 2:
                return Step.of("wear", coin, side, random.nextInt(11) - 1);
            case 3:
                return Step.of("row", die, other);
            case 4:
                return withRings ? Step.of("ring", few) : Step.of("count", 2);
            case 5:
                return Step.of("order", die, other);
            case 6:
                return Step.of("chain", die);
            case 7:
                return Step.of("chains");
            case 8:
                return Step.of("dies", side, part);
            case 9:
                return Step.of("mean", die, part);
            case 10:
                return few == 0 ? Step.of("hoard") : Step.of("overlap", a, b, part);
            case 11:
                return Step.of("into", a, coin);
            case 12:
                return Step.of("overlap", a, b, part);
            case 13:
                return Step.of("linked", coin, few);
            case 14:
                return Step.of("unit", few < 2 ? 0x373a : 0x2c78, few < 3 ? 0 : 0x3a31306f, 0, few == 5 ? 0x39 : 0);
            case 15:
                return Step.of("rule");
            case 16:
                return Step.of("type", coin);
            default:
                return Step.of("count", few);
        }
    }
}
