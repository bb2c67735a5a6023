/** The boundary cases of promises 8 chain, 9 chains, 10 dies, 11 mean: a method for each, its words above it. */
public final class ChainEdgesTest {
    private static final String INDEX = "IndexOutOfBoundsException";

    public static void main(String[] args) {
        numberOfAChain();
        chainOfNoDie();
        chainsThatHaveCoins();
        mostChains();
        diesWithoutCoins();
        diesThatOneCoinHas();
        diesThatMoreCoinsHave();
        mostCoinsOfDies();
        diesInDoubt();
        diesOfNoSideOrPart();
        meanWithoutCoins();
        meanOfOneCoin();
        meanThatCanBeLessened();
        mostWeight();
        meanOfNoDieOrPart();
        Check.done();
    }

    /** The number of a die's chain. */
    private static void numberOfAChain() {
        DieGraphs x = new DieGraphs();
        x.coin(15, 31, 1);
        Check.same("the last dies of both sides", x.chain(31), 15);
        x.coin(15, 16, 1);
        Check.same("another back is not less than the front", x.chain(16), 15);
        x.coin(14, 31, 1);
        Check.same("a front that is less", x.chain(16), 14);
        x.coin(0, 30, 1);
        Check.same("another chain's front", x.chain(16), 14);
        x.coin(14, 30, 1);
        Check.same("the chains become one", x.chain(16), 0);
        Check.same("by its least die", x.chain(0), 0);
        x.doubt(4, true);
        Check.same("they come apart", x.chain(16), 14);
        Check.same("the other one", x.chain(30), 0);
    }

    /** IndexOutOfBoundsException. */
    private static void chainOfNoDie() {
        DieGraphs x = new DieGraphs();
        Check.range("die without coins", 0, 31, INDEX, die -> x.chain(die));
        x.coin(0, 31, 1);
        Check.range("die with coins", 0, 31, INDEX, die -> x.chain(die));
    }

    /** How many chains there are that have coins. */
    private static void chainsThatHaveCoins() {
        DieGraphs x = new DieGraphs();
        Check.same("no coins", x.chains(), 0);
        x.coin(15, 31, 1);
        Check.same("one coin", x.chains(), 1);
        x.coin(15, 31, 1);
        Check.same("two coins of the same dies", x.chains(), 1);
        x.coin(0, 16, 1);
        Check.same("dies of their own", x.chains(), 2);
        x.coin(0, 31, 1);
        Check.same("a link", x.chains(), 1);
        x.doubt(3, true);
        Check.same("the link in doubt", x.chains(), 2);
        x.doubt(2, true);
        Check.same("a chain in doubt", x.chains(), 1);
        x.doubt(1, true);
        Check.same("one of two coins in doubt", x.chains(), 1);
        x.doubt(0, true);
        Check.same("all coins in doubt", x.chains(), 0);
    }

    private static void mostChains() {
        DieGraphs x = new DieGraphs();
        for (int front = 0; front < 16; front++) {
            x.coin(front, 31 - front, 1);
            Check.same("chains of one coin", x.chains(), front + 1);
        }
        for (int front = 0; front < 15; front++) {
            x.coin(front, 30 - front, 1);
            Check.same("chains that are linked", x.chains(), 15 - front);
        }
    }

    /** (0 / 1 without coins). */
    private static void diesWithoutCoins() {
        DieGraphs x = new DieGraphs();
        dies("no coins", x, 0, "0 / 1");
        dies("no coins", x, 1, "0 / 1");
        x.coin(0, 16, 1);
        x.coin(0, 16, 1);
        x.doubt(0, true);
        x.doubt(1, true);
        dies("none but in doubt", x, 0, "0 / 1");
        dies("none but in doubt", x, 1, "0 / 1");
    }

    /** (1 / 0 if n is s and not 0). */
    private static void diesThatOneCoinHas() {
        DieGraphs x = new DieGraphs();
        for (int i = 0; i < 16; i++) {
            x.coin(15 - i, 16 + i, 1);
            dies("coin " + i + " of a die of its own", x, 0, "1 / 0");
            dies("coin " + i + " of a die of its own", x, 1, "1 / 0");
        }
        x.coin(0, 31, 1);
        // n 17, d 16, s 15
        dies("one die that two have", x, 0, "136 / 1");
        dies("one die that two have", x, 1, "136 / 1");
        x.doubt(16, true);
        dies("the second one in doubt", x, 0, "1 / 0");
    }

    /** d * n / (n - s), as a fraction that cannot be lessened (part 0 above, 1 below). */
    private static void diesThatMoreCoinsHave() {
        DieGraphs x = new DieGraphs();
        x.coin(0, 16, 1);
        dies("n 1, d 1, s 1", x, 0, "1 / 0");
        x.coin(0, 17, 1);
        dies("n 2, d 1, s 0", x, 0, "1 / 1");
        dies("n 2, d 2, s 2", x, 1, "1 / 0");
        x.coin(1, 17, 1);
        dies("n 3, d 2, s 1", x, 0, "3 / 1");
        x.coin(0, 17, 1);
        dies("n 4, d 2, s 1", x, 0, "8 / 3");
        dies("n 4, d 2, s 1 of the back", x, 1, "8 / 3");
        x.coin(15, 31, 1);
        dies("n 5, d 3, s 2", x, 0, "5 / 1");
        x.coin(15, 30, 1);
        dies("n 6, d 3, s 1", x, 0, "18 / 5");
        dies("n 6, d 4, s 3", x, 1, "8 / 1");
    }

    private static void mostCoinsOfDies() {
        DieGraphs x = new DieGraphs();
        for (int i = 0; i < 80; i++) {
            x.coin(Math.min(i, 15), 16, 1);
        }
        dies("n 80, d 16, s 15", x, 0, "256 / 13");
        dies("n 80, d 1, s 0", x, 1, "1 / 1");
        DieGraphs y = new DieGraphs();
        for (int i = 0; i < 79; i++) {
            y.coin(i % 16, 16 + Math.min(i, 14), 1);
        }
        // n 79, d 15, s 14
        dies("n 79, d 15, s 14", y, 1, "237 / 13");
        dies("n 79, d 16, s 0", y, 0, "16 / 1");
    }

    /** OF A SIDE, of all coins not in doubt. */
    private static void diesInDoubt() {
        DieGraphs x = new DieGraphs();
        x.coin(0, 16, 1);
        x.coin(0, 17, 1);
        x.coin(0, 17, 1);
        x.coin(1, 18, 1);
        // n 4, d 2, s 1; of the back d 3, s 2
        dies("none in doubt", x, 0, "8 / 3");
        dies("none in doubt", x, 1, "6 / 1");
        x.doubt(2, true);
        // n 3, d 2, s 1; of the back d 3, s 3
        dies("one of three in doubt", x, 0, "3 / 1");
        dies("one of two in doubt", x, 1, "1 / 0");
        x.doubt(3, true);
        dies("a die in doubt", x, 0, "1 / 1");
        x.doubt(2, false);
        // n 3, d 1, s 0; of the back d 2, s 1
        dies("no more in doubt", x, 0, "1 / 1");
        dies("no more in doubt", x, 1, "3 / 1");
    }

    /** IndexOutOfBoundsException: side or part. */
    private static void diesOfNoSideOrPart() {
        DieGraphs x = new DieGraphs();
        Check.range("side, no coins", 0, 1, INDEX, side -> x.dies(side, 0));
        Check.range("part, no coins", 0, 1, INDEX, part -> x.dies(0, part));
        x.coin(0, 16, 1);
        x.coin(0, 16, 1);
        Check.range("side", 0, 1, INDEX, side -> x.dies(side, 1));
        Check.range("part", 0, 1, INDEX, part -> x.dies(1, part));
        Check.noIndex("neither", () -> x.dies(2, 2));
    }

    /** (0 / 1 without coins). */
    private static void meanWithoutCoins() {
        DieGraphs x = new DieGraphs();
        mean("no coins", x, 0, "0 / 1");
        mean("no coins", x, 31, "0 / 1");
        x.coin(0, 31, 7);
        mean("the die beside", x, 1, "0 / 1");
        mean("the back beside", x, 30, "0 / 1");
        x.doubt(0, true);
        mean("none but in doubt", x, 0, "0 / 1");
        mean("none but in doubt", x, 31, "0 / 1");
    }

    private static void meanOfOneCoin() {
        for (int milligrams : new int[] {1, 2, 999999, 1000000}) {
            DieGraphs x = new DieGraphs();
            x.coin(15, 16, milligrams);
            mean("one coin's weight", x, 15, milligrams + " / 1");
            mean("by its back", x, 16, milligrams + " / 1");
        }
    }

    /** The sum of their milligrams over their number, as a fraction that cannot be lessened. */
    private static void meanThatCanBeLessened() {
        DieGraphs x = new DieGraphs();
        x.coin(0, 16, 1);
        x.coin(0, 17, 2);
        mean("3 / 2", x, 0, "3 / 2");
        x.coin(1, 17, 3);
        mean("6 / 3, over another die", x, 16, "2 / 1");
        x.coin(1, 18, 4);
        mean("10 / 4", x, 18, "5 / 2");
        x.coin(5, 25, 1000);
        mean("another chain does not count", x, 0, "5 / 2");
        x.doubt(1, true);
        mean("one chain becomes two, the first", x, 0, "1 / 1");
        mean("the second, 7 / 2", x, 1, "7 / 2");
    }

    private static void mostWeight() {
        DieGraphs x = new DieGraphs();
        for (int i = 0; i < 79; i++) {
            x.coin(0, 16, 1000000);
        }
        mean("79 of the greatest", x, 0, "1000000 / 1");
        x.coin(0, 16, 999999);
        mean("79999999 / 80", x, 0, "79999999 / 80");
        x.doubt(79, true);
        x.doubt(78, true);
        mean("78 of the greatest", x, 16, "1000000 / 1");
        DieGraphs y = new DieGraphs();
        for (int i = 0; i < 80; i++) {
            y.coin(i % 16, 16, 1);
        }
        mean("80 of the least", y, 15, "1 / 1");
    }

    /** IndexOutOfBoundsException: die or part. */
    private static void meanOfNoDieOrPart() {
        DieGraphs x = new DieGraphs();
        Check.range("die, no coins", 0, 31, INDEX, die -> x.mean(die, 1));
        Check.range("part, no coins", 0, 1, INDEX, part -> x.mean(31, part));
        x.coin(0, 16, 3);
        Check.range("die", 0, 31, INDEX, die -> x.mean(die, 0));
        Check.range("part", 0, 1, INDEX, part -> x.mean(0, part));
        Check.noIndex("neither", () -> x.mean(32, 2));
    }

    private static void dies(String what, DieGraphs x, int side, String due) {
        Check.fraction(what + ", side " + side, x.dies(side, 0), x.dies(side, 1), due);
    }

    private static void mean(String what, DieGraphs x, int die, String due) {
        Check.fraction(what, x.mean(die, 0), x.mean(die, 1), due);
    }
}
