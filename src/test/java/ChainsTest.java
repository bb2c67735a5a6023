/** Promises 8 chain, 9 chains, 10 dies, 11 mean. */
public final class ChainsTest {
    public static void main(String[] args) {
        chains();
        chainsOverDoubt();
        dies();
        mostDies();
        means();
        wrongCalls();
        Check.done();
    }

    private static void chains() {
        DieGraphs x = new DieGraphs();
        x.coin(7, 20, 1);
        x.coin(9, 21, 1);
        x.coin(15, 31, 1);
        Check.same("chains()", x.chains(), 3);
        Check.same("chain(21)", x.chain(21), 9);
        x.coin(9, 20, 1);
        Check.same("chains() linked", x.chains(), 2);
        Check.same("chain(21) linked", x.chain(21), 7);
        Check.same("chain(9) linked", x.chain(9), 7);
        Check.same("chain(7)", x.chain(7), 7);
        Check.same("chain(31)", x.chain(31), 15);
        Check.same("a die without coins", x.chain(30), 30);
        x.coin(0, 21, 1);
        Check.same("chain(20) with a lower die", x.chain(20), 0);
        x.row(1, 2);
        Check.same("rows do not link", x.chain(2), 2);
    }

    private static void chainsOverDoubt() {
        DieGraphs x = new DieGraphs();
        x.coin(1, 17, 1);
        x.coin(2, 17, 1);
        x.coin(2, 18, 1);
        Check.same("chain(18)", x.chain(18), 1);
        x.doubt(1, true);
        Check.same("chain(18) without the middle", x.chain(18), 2);
        Check.same("chains()", x.chains(), 2);
        x.doubt(2, true);
        Check.same("chains() with coins not in doubt", x.chains(), 1);
        Check.same("chain(18) in doubt", x.chain(18), 18);
    }

    private static void dies() {
        DieGraphs x = new DieGraphs();
        fraction("no coins, front", x.dies(0, 0), x.dies(0, 1), 0, 1);
        fraction("no coins, back", x.dies(1, 0), x.dies(1, 1), 0, 1);
        x.coin(3, 16, 1);
        x.coin(4, 16, 1);
        fraction("n is s", x.dies(0, 0), x.dies(0, 1), 1, 0);
        fraction("one die, two coins", x.dies(1, 0), x.dies(1, 1), 1, 1);
        x.coin(4, 16, 1);
        x.coin(4, 17, 1);
        x.coin(5, 17, 1);
        // front: n 5, d 3, s 2; back: n 5, d 2, s 0
        fraction("3 * 5 / 3", x.dies(0, 0), x.dies(0, 1), 5, 1);
        fraction("2 * 5 / 5", x.dies(1, 0), x.dies(1, 1), 2, 1);
        x.coin(5, 18, 1);
        x.coin(6, 19, 1);
        // front: n 7, d 4, s 2; back: n 7, d 4, s 2
        fraction("4 * 7 / 5", x.dies(0, 0), x.dies(0, 1), 28, 5);
        fraction("4 * 7 / 5", x.dies(1, 0), x.dies(1, 1), 28, 5);
        x.doubt(6, true);
        // front: n 6, d 3, s 1; back: n 6, d 3, s 1
        fraction("3 * 6 / 5", x.dies(0, 0), x.dies(0, 1), 18, 5);
        for (int coin = 0; coin < 6; coin++) {
            x.doubt(coin, true);
        }
        fraction("all in doubt", x.dies(0, 0), x.dies(0, 1), 0, 1);
    }

    private static void mostDies() {
        DieGraphs x = new DieGraphs();
        for (int i = 0; i < 80; i++) {
            x.coin(Math.min(i, 15), 31 - i / 5, 1);
        }
        // front: n 80, d 16, s 15; back: n 80, d 16, s 0
        fraction("16 * 80 / 65", x.dies(0, 0), x.dies(0, 1), 256, 13);
        fraction("16 * 80 / 80", x.dies(1, 0), x.dies(1, 1), 16, 1);
    }

    private static void means() {
        DieGraphs x = new DieGraphs();
        x.coin(1, 17, 10);
        x.coin(1, 18, 15);
        x.coin(2, 18, 20);
        x.coin(2, 18, 3);
        x.coin(9, 25, 1000000);
        fraction("the chain by its least die", x.mean(1, 0), x.mean(1, 1), 12, 1);
        fraction("the chain by another die", x.mean(18, 0), x.mean(18, 1), 12, 1);
        fraction("another chain", x.mean(25, 0), x.mean(25, 1), 1000000, 1);
        fraction("no coins", x.mean(0, 0), x.mean(0, 1), 0, 1);
        x.doubt(0, true);
        fraction("38 / 3", x.mean(2, 0), x.mean(2, 1), 38, 3);
        fraction("in doubt alone", x.mean(17, 0), x.mean(17, 1), 0, 1);
        x.doubt(3, true);
        fraction("35 / 2", x.mean(2, 0), x.mean(2, 1), 35, 2);
        DieGraphs y = new DieGraphs();
        for (int i = 0; i < 79; i++) {
            y.coin(0, 16, 1000000);
        }
        y.coin(0, 16, 999999);
        fraction("the greatest sum", y.mean(16, 0), y.mean(16, 1), 79999999, 80);
    }

    private static void wrongCalls() {
        DieGraphs x = new DieGraphs();
        for (int wrong : new int[] {-1, 32, Integer.MIN_VALUE, Integer.MAX_VALUE}) {
            Check.noIndex("chain(" + wrong + ")", () -> x.chain(wrong));
            Check.noIndex("mean(" + wrong + ", 0)", () -> x.mean(wrong, 0));
        }
        for (int wrong : new int[] {-1, 2, Integer.MIN_VALUE, Integer.MAX_VALUE}) {
            Check.noIndex("mean(0, " + wrong + ")", () -> x.mean(0, wrong));
            Check.noIndex("dies(0, " + wrong + ")", () -> x.dies(0, wrong));
            Check.noIndex("dies(" + wrong + ", 0)", () -> x.dies(wrong, 0));
        }
    }

    private static void fraction(String what, int above, int below, int dueAbove, int dueBelow) {
        Check.same(what, above + " / " + below, dueAbove + " / " + dueBelow);
    }
}
