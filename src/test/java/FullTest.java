/** All promises with as many coins, rows, hoards, rules and signs as there may be. */
public final class FullTest {
    private static final String FORTY = "x,x,x,x,x,x,x,x,x,x,x,x,x,x,x,x,x,x,x:42";

    public static void main(String[] args) {
        DieGraphs x = new DieGraphs();
        for (int i = 0; i < 80; i++) {
            x.coin(i % 16, 31 - i / 5, 1000000);
            Check.same("doubt(" + i + ", true)", x.doubt(i, true), true);
        }
        for (int i = 0; i < 60; i++) {
            Check.same("row " + i, x.row(i % 30 / 15 * 16 + i % 15, i % 30 / 15 * 16 + i % 15 + 1), true);
        }
        for (int i = 0; i < 8; i++) {
            x.hoard();
            Check.same("into(" + i + ", 79)", x.into(i, 79), true);
        }
        for (int i = 0; i < 12; i++) {
            Check.same("rule " + i, Check.rule(x, FORTY), i);
        }
        Check.collect(x, FORTY);
        nothingMore(x);
        allInDoubt(x);
        lastCoinOutOfDoubt(x);
        Check.done();
    }

    private static void nothingMore(DieGraphs x) {
        Check.noState("coin", () -> x.coin(0, 16, 1));
        Check.noState("row", () -> x.row(0, 1) ? 1 : 0);
        Check.noState("hoard", () -> x.hoard());
        Check.noState("rule", () -> x.rule());
        Check.noState("unit", () -> x.unit(1, 0, 0, 0));
        int[] due = {80, 80, 60, 8, 12, 40};
        for (int what = 0; what < 6; what++) {
            Check.same("count(" + what + ")", x.count(what), due[what]);
        }
    }

    private static void allInDoubt(DieGraphs x) {
        Check.same("order(0, 15)", x.order(0, 15), -1);
        Check.same("order(31, 16)", x.order(31, 16), 1);
        Check.same("chains()", x.chains(), 0);
        Check.same("chain(31)", x.chain(31), 31);
        Check.same("dies(1, 1)", x.dies(1, 1), 1);
        Check.same("mean(31, 0)", x.mean(31, 0), 0);
        Check.same("overlap(6, 7, 0)", x.overlap(6, 7, 0), 0);
        Check.same("linked(79, 0)", x.linked(79, 0), -1);
        Check.same("type(79)", x.type(79), 42);
    }

    private static void lastCoinOutOfDoubt(DieGraphs x) {
        for (int i = 75; i < 80; i++) {
            Check.same("wear(" + i + ", 1, 9) in doubt", x.wear(i, 1, 9), true);
            Check.same("doubt(" + i + ", false)", x.doubt(i, false), true);
        }
        Check.same("wear(79, 1, 0)", x.wear(79, 1, 0), false);
        Check.same("its ring", Check.ring(x), "14 15");
        Check.same("wear(75, 1, 0)", x.wear(75, 1, 0), true);
        Check.same("chain(15)", x.chain(15), 11);
        Check.same("chains()", x.chains(), 1);
        Check.same("dies(1, 0)", x.dies(1, 0), 1);
        Check.same("mean(16, 0)", x.mean(16, 0), 1000000);
        Check.same("overlap(6, 7, 0)", x.overlap(6, 7, 0), 1);
        Check.same("linked(79, 3)", x.linked(79, 3), 78);
        Check.same("type(79)", x.type(79), -1);
        Check.same("count(1)", x.count(1), 75);
    }
}
