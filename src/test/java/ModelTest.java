import java.util.Random;

/** All promises: long runs of calls, good ones and wrong ones, on the program and on the model. */
public final class ModelTest {
    private static final int RUNS = 600;
    private static final int CALLS = 512;
    private static final int[] FAR = {-1, -2, 2, 8, 10, 16, 32, 80, 1000001, Integer.MIN_VALUE, Integer.MAX_VALUE};
    private static final String[] CONDITIONS = {"o1,", "r2,", "o0,", "<500,", ">0020,", "x,"};
    private static final String[] PIECES = {"o1", "o3", "r2", "r0000001", "<500", ">20", "x", ",", ",", ",", ":", ":7",
        ":12", "5", "12345678", "?", "\u00ff"};

    private final Random random;
    private final DieGraphs program = new DieGraphs();
    private final Model model = new Model();
    private final int dies;
    private final int weights;
    private final int wrongOf100;
    private final int[] shares;
    private final int run;
    private int calls = 0;

    private ModelTest(int run) {
        this.run = run;
        random = new Random(run);
        dies = new int[] {2, 3, 4, 6, 10, 16}[run % 6];
        weights = new int[] {40, 1000, 1000000}[run % 3];
        wrongOf100 = run % 4;
        // coin doubt wear row rings order chain dies mean hoard linked text rule type count
        shares = new int[][] {
            {4, 4, 6, 2, 2, 4, 2, 2, 2, 2, 2, 3, 1, 3, 1},
            {3, 4, 20, 1, 4, 6, 1, 0, 0, 0, 0, 0, 0, 0, 0},
            {1, 0, 1, 8, 4, 6, 0, 0, 0, 0, 0, 0, 0, 0, 0},
            {6, 2, 0, 0, 0, 0, 3, 4, 4, 6, 3, 0, 0, 0, 0},
            {2, 1, 0, 0, 0, 0, 0, 0, 0, 0, 0, 12, 8, 6, 1},
        }[run / 6 % 5];
    }

    public static void main(String[] args) {
        for (int run = 0; run < RUNS; run++) {
            ModelTest test = new ModelTest(run);
            while (test.calls < CALLS) {
                test.call();
            }
        }
        Check.done();
    }

    private void call() {
        int left = random.nextInt(total());
        int which = 0;
        while (left >= shares[which]) {
            left -= shares[which];
            which++;
        }
        switch (which) {
            case 0 -> coin();
            case 1 -> doubt();
            case 2 -> wear();
            case 3 -> row();
            case 4 -> ring();
            case 5 -> order();
            case 6 -> chain();
            case 7 -> dies();
            case 8 -> mean();
            case 9 -> hoard();
            case 10 -> linked();
            case 11 -> text();
            case 12 -> compare("rule()", program::rule, model::rule);
            case 13 -> type();
            default -> count();
        }
    }

    private int total() {
        int sum = 0;
        for (int share : shares) {
            sum += share;
        }
        return sum;
    }

    private void compare(String call, Check.Call got, Check.Call due) {
        if (calls < CALLS) {
            calls++;
            Check.same("run " + run + ", call " + calls + ": " + call, Check.outcome(got), Check.outcome(due));
        }
    }

    /** Mostly a number from least on, of so many; seldom one from far away. */
    private int number(int least, int many) {
        if (random.nextInt(100) < wrongOf100) {
            return FAR[random.nextInt(FAR.length)];
        }
        return least + random.nextInt(Math.max(1, many));
    }

    private int someCoin() {
        return number(0, model.count(0));
    }

    private int someDie() {
        return number(random.nextInt(2) * 16, dies);
    }

    private void coin() {
        int front = number(0, dies);
        int back = number(16, dies);
        int milligrams = number(1, weights);
        compare("coin(" + front + ", " + back + ", " + milligrams + ")",
                () -> program.coin(front, back, milligrams), () -> model.coin(front, back, milligrams));
    }

    private void doubt() {
        int coin = someCoin();
        boolean on = random.nextInt(3) == 0;
        compare("doubt(" + coin + ", " + on + ")",
                () -> program.doubt(coin, on) ? 1 : 0, () -> model.doubt(coin, on) ? 1 : 0);
    }

    private void wear() {
        int coin = someCoin();
        int side = number(0, 2);
        int stage = number(-1, 11);
        compare("wear(" + coin + ", " + side + ", " + stage + ")",
                () -> program.wear(coin, side, stage) ? 1 : 0, () -> model.wear(coin, side, stage) ? 1 : 0);
    }

    private void row() {
        int before = someDie();
        int after = random.nextInt(20) == 0 ? someDie() : number(before / 16 * 16, dies);
        compare("row(" + before + ", " + after + ")",
                () -> program.row(before, after) ? 1 : 0, () -> model.row(before, after) ? 1 : 0);
    }

    private void ring() {
        for (int i = 0; i < 5; i++) {
            int k = i < 4 ? i : number(4, 14);
            compare("ring(" + k + ")", () -> program.ring(k), () -> model.ring(k));
        }
    }

    private void order() {
        int a = someDie();
        int b = random.nextInt(20) == 0 ? someDie() : number(a / 16 * 16, dies);
        compare("order(" + a + ", " + b + ")", () -> program.order(a, b), () -> model.order(a, b));
    }

    private void chain() {
        int die = someDie();
        compare("chain(" + die + ")", () -> program.chain(die), () -> model.chain(die));
        compare("chains()", program::chains, model::chains);
    }

    private void dies() {
        int side = number(0, 2);
        int part = number(0, 2);
        compare("dies(" + side + ", " + part + ")", () -> program.dies(side, part), () -> model.dies(side, part));
    }

    private void mean() {
        int die = someDie();
        int part = number(0, 2);
        compare("mean(" + die + ", " + part + ")", () -> program.mean(die, part), () -> model.mean(die, part));
    }

    private void hoard() {
        int a = number(0, model.count(3));
        int b = number(0, model.count(3));
        int part = number(0, 2);
        int coin = someCoin();
        if (random.nextInt(8) == 0) {
            compare("hoard()", program::hoard, model::hoard);
        } else if (random.nextInt(2) == 0) {
            compare("into(" + a + ", " + coin + ")",
                    () -> program.into(a, coin) ? 1 : 0, () -> model.into(a, coin) ? 1 : 0);
        } else {
            compare("overlap(" + a + ", " + b + ", " + part + ")",
                    () -> program.overlap(a, b, part), () -> model.overlap(a, b, part));
        }
    }

    private void linked() {
        int coin = someCoin();
        int k = number(0, 6);
        compare("linked(" + coin + ", " + k + ")", () -> program.linked(coin, k), () -> model.linked(coin, k));
    }

    private void text() {
        String text = random.nextInt(2) == 0 ? goodText() : anyText();
        int[] words = new int[4];
        int place = 0;
        for (int i = 0; i < text.length() && place < 16; i++) {
            words[place / 4] |= text.charAt(i) << place % 4 * 8;
            place += random.nextInt(20) == 0 ? 2 : 1;
        }
        compare("unit of " + text, () -> program.unit(words[0], words[1], words[2], words[3]),
                () -> model.unit(words[0], words[1], words[2], words[3]));
    }

    private String goodText() {
        StringBuilder text = new StringBuilder();
        int conditions = random.nextInt(3);
        for (int i = 0; i < conditions; i++) {
            text.append(CONDITIONS[random.nextInt(CONDITIONS.length)]);
        }
        text.setLength(Math.max(0, text.length() - 1));
        return text.append(':').append(random.nextInt(100)).toString();
    }

    private String anyText() {
        StringBuilder text = new StringBuilder();
        int pieces = 1 + random.nextInt(4);
        for (int i = 0; i < pieces; i++) {
            text.append(PIECES[random.nextInt(PIECES.length)]);
        }
        return text.toString();
    }

    private void type() {
        int coin = someCoin();
        compare("type(" + coin + ")", () -> program.type(coin), () -> model.type(coin));
    }

    private void count() {
        int what = number(0, 6);
        compare("count(" + what + ")", () -> program.count(what), () -> model.count(what));
    }
}
