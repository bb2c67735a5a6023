/** Promises 2 coin, 3 doubt, 15 linked, 19 count. */
public final class CoinsTest {
    public static void main(String[] args) {
        edgesOfCoins();
        wrongCoins();
        mostCoins();
        doubts();
        doubtIsRefusedByARing();
        linked();
        counts();
        Check.done();
    }

    private static void edgesOfCoins() {
        DieGraphs x = new DieGraphs();
        Check.same("the least coin", x.coin(0, 16, 1), 0);
        Check.same("the greatest coin", x.coin(15, 31, 1000000), 1);
        Check.same("a coin like an earlier one", x.coin(0, 16, 1), 2);
        Check.same("count(0)", x.count(0), 3);
        Check.same("the greatest weight", x.mean(15, 0), 1000000);
    }

    private static void wrongCoins() {
        DieGraphs x = new DieGraphs();
        int least = Integer.MIN_VALUE;
        int most = Integer.MAX_VALUE;
        int[][] noDies = {{-1, 16}, {16, 16}, {least, 16}, {most, 16}, {0, 15}, {0, 32}, {0, -1}, {0, least}, {0, most}};
        for (int[] dies : noDies) {
            Check.noIndex("coin(" + dies[0] + ", " + dies[1] + ", 1)", () -> x.coin(dies[0], dies[1], 1));
            Check.noIndex("no die before no milligrams", () -> x.coin(dies[0], dies[1], 0));
        }
        for (int milligrams : new int[] {0, -1, 1000001, least, most}) {
            Check.noArgument("coin(0, 16, " + milligrams + ")", () -> x.coin(0, 16, milligrams));
        }
        Check.same("coins after wrong ones", x.count(0), 0);
        Check.same("the next coin's number", x.coin(0, 16, 7), 0);
    }

    private static void mostCoins() {
        DieGraphs x = new DieGraphs();
        for (int i = 0; i < 80; i++) {
            Check.same("coin " + i, x.coin(i % 16, 16 + i % 16, 1000000), i);
        }
        Check.noState("coin 80", () -> x.coin(0, 16, 1));
        Check.noArgument("milligrams before too many", () -> x.coin(0, 16, 0));
        Check.noIndex("no die before too many", () -> x.coin(16, 16, 0));
        Check.same("count(0)", x.count(0), 80);
        Check.same("linked(79, 3)", x.linked(79, 3), 63);
        Check.same("linked(79, 4)", x.linked(79, 4), -1);
        Check.noIndex("linked(80, 0)", () -> x.linked(80, 0));
    }

    private static void doubts() {
        DieGraphs x = new DieGraphs();
        x.coin(0, 16, 10);
        Check.same("a new coin is not in doubt", x.doubt(0, false), false);
        Check.same("doubt", x.doubt(0, true), true);
        Check.same("doubt again", x.doubt(0, true), false);
        Check.same("count(1)", x.count(1), 1);
        Check.same("chain(16) without the coin", x.chain(16), 16);
        Check.same("no doubt", x.doubt(0, false), true);
        Check.same("no doubt again", x.doubt(0, false), false);
        Check.same("count(1)", x.count(1), 0);
        Check.same("chain(16) with the coin", x.chain(16), 0);
        for (int coin : new int[] {-1, 1, Integer.MIN_VALUE, Integer.MAX_VALUE}) {
            Check.noIndex("doubt(" + coin + ", true)", () -> x.doubt(coin, true) ? 1 : 0);
            Check.noIndex("doubt(" + coin + ", false)", () -> x.doubt(coin, false) ? 1 : 0);
        }
        Check.same("count(1) after wrong calls", x.count(1), 0);
    }

    private static void doubtIsRefusedByARing() {
        DieGraphs x = new DieGraphs();
        x.coin(4, 16, 1);
        x.coin(5, 16, 1);
        x.wear(0, 1, 3);
        x.doubt(1, true);
        x.wear(1, 1, 8);
        Check.same("order(4, 5) in doubt", x.order(4, 5), 0);
        Check.same("row(5, 4)", x.row(5, 4), true);
        Check.same("doubt(1, false) would be a ring", x.doubt(1, false), false);
        Check.same("its ring", Check.ring(x), "4 5");
        Check.same("the coin is in doubt still", x.count(1), 1);
        Check.same("order(5, 4)", x.order(5, 4), -1);
        Check.same("doubt(1, true) is so already", x.doubt(1, true), false);
        Check.same("the stage is kept", x.wear(1, 1, -1), true);
        Check.same("doubt(1, false) without the stage", x.doubt(1, false), true);
        Check.same("the ring is told still", Check.ring(x), "4 5");
        Check.same("doubt(1, false) is so already", x.doubt(1, false), false);
        Check.same("count(1)", x.count(1), 0);
    }

    private static void linked() {
        DieGraphs x = new DieGraphs();
        x.coin(1, 20, 1);
        x.coin(2, 21, 1);
        x.coin(1, 21, 1);
        x.coin(3, 20, 1);
        x.coin(1, 20, 1);
        int[][] due = {{2, 3, 4, -1}, {2, -1, -1, -1}, {0, 1, 4, -1}, {0, 4, -1, -1}, {0, 2, 3, -1}};
        for (int coin = 0; coin < 5; coin++) {
            for (int k = 0; k < 4; k++) {
                Check.same("linked(" + coin + ", " + k + ")", x.linked(coin, k), due[coin][k]);
            }
        }
        x.doubt(2, true);
        Check.same("linked(2, 0) in doubt", x.linked(2, 0), -1);
        Check.same("linked(1, 0) with one in doubt", x.linked(1, 0), -1);
        Check.same("linked(0, 0) with one in doubt", x.linked(0, 0), 3);
        Check.same("linked far behind", x.linked(0, Integer.MAX_VALUE), -1);
        Check.noIndex("linked(-1, 0)", () -> x.linked(-1, 0));
        Check.noIndex("linked(5, 0)", () -> x.linked(5, 0));
        Check.noIndex("linked(0, -1)", () -> x.linked(0, -1));
        Check.noIndex("linked(2, -1) of a coin in doubt", () -> x.linked(2, -1));
    }

    private static void counts() {
        DieGraphs x = new DieGraphs();
        for (int i = 0; i < 7; i++) {
            x.coin(0, 16, 1);
        }
        for (int i = 0; i < 6; i++) {
            x.doubt(i, true);
        }
        for (int i = 0; i < 5; i++) {
            x.row(1, 2);
        }
        for (int i = 0; i < 4; i++) {
            x.hoard();
        }
        for (int i = 0; i < 3; i++) {
            Check.rule(x, ":1");
        }
        Check.collect(x, ":1");
        for (int what = 0; what <= 5; what++) {
            Check.same("count(" + what + ")", x.count(what), 7 - what);
        }
        for (int what : new int[] {-1, 6, Integer.MIN_VALUE, Integer.MAX_VALUE}) {
            Check.noIndex("count(" + what + ")", () -> x.count(what));
        }
    }
}
