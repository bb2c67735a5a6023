/** Promises 4 wear, 5 row, 6 ring, 7 order. */
public final class OrderTest {
    public static void main(String[] args) {
        rows();
        wrongRows();
        mostRows();
        stages();
        stagesOfOneDieAlone();
        wearIsRefusedByARing();
        wearInDoubt();
        wrongWear();
        shortestRing();
        lowestRing();
        longestRing();
        ringOfTheBack();
        ringsOfBothSides();
        ringIsKept();
        wrongOrder();
        Check.done();
    }

    private static void rows() {
        DieGraphs x = new DieGraphs();
        Check.same("row(5, 9)", x.row(5, 9), true);
        Check.same("row(9, 2)", x.row(9, 2), true);
        Check.same("row(5, 9) again", x.row(5, 9), true);
        Check.same("it counts once more", x.count(2), 3);
        Check.same("order(5, 2) over 9", x.order(5, 2), -1);
        Check.same("order(2, 5)", x.order(2, 5), 1);
        Check.same("order(5, 5)", x.order(5, 5), 0);
        Check.same("order(5, 1)", x.order(5, 1), 0);
        Check.same("row(2, 5) would be a ring", x.row(2, 5), false);
        Check.same("its ring", Check.ring(x), "2 5 9");
        Check.same("rows after a ring", x.count(2), 3);
        Check.same("order(5, 2) after a ring", x.order(5, 2), -1);
        Check.same("row(2, 2)", x.row(2, 2), false);
        Check.same("a ring of one", Check.ring(x), "2");
        Check.same("rows after a ring of one", x.count(2), 3);
    }

    private static void wrongRows() {
        DieGraphs x = new DieGraphs();
        int[] none = {-1, 32, Integer.MIN_VALUE, Integer.MAX_VALUE};
        for (int die : none) {
            Check.noIndex("row(" + die + ", 0)", () -> x.row(die, 0) ? 1 : 0);
            Check.noIndex("row(0, " + die + ")", () -> x.row(0, die) ? 1 : 0);
            Check.noIndex("row(16, " + die + ")", () -> x.row(16, die) ? 1 : 0);
            Check.noIndex("row(" + die + ", " + die + ")", () -> x.row(die, die) ? 1 : 0);
        }
        Check.noArgument("row(15, 16)", () -> x.row(15, 16) ? 1 : 0);
        Check.noArgument("row(16, 15)", () -> x.row(16, 15) ? 1 : 0);
        Check.noArgument("row(31, 0)", () -> x.row(31, 0) ? 1 : 0);
        Check.same("rows after wrong ones", x.count(2), 0);
        Check.same("no ring was told", x.ring(0), -1);
    }

    private static void mostRows() {
        DieGraphs x = new DieGraphs();
        for (int i = 0; i < 60; i++) {
            Check.same("row " + i, x.row(0, 1), true);
        }
        Check.noState("row 60", () -> x.row(0, 1) ? 1 : 0);
        Check.noState("row 60, which would be a ring", () -> x.row(1, 0) ? 1 : 0);
        Check.noState("row 60 of a die and itself", () -> x.row(1, 1) ? 1 : 0);
        Check.noArgument("two sides before too many", () -> x.row(1, 16) ? 1 : 0);
        Check.noIndex("no die before too many", () -> x.row(32, 0) ? 1 : 0);
        Check.same("no ring was told", x.ring(0), -1);
        Check.same("count(2)", x.count(2), 60);
        Check.same("order(0, 1)", x.order(0, 1), -1);
    }

    private static void stages() {
        DieGraphs x = new DieGraphs();
        x.coin(0, 20, 1);
        x.coin(0, 21, 1);
        x.coin(0, 22, 1);
        x.coin(9, 22, 1);
        Check.same("wear(0, 0, 0)", x.wear(0, 0, 0), true);
        Check.same("one stage alone is no order", x.order(20, 21), 0);
        Check.same("wear(1, 0, 9)", x.wear(1, 0, 9), true);
        Check.same("order(20, 21)", x.order(20, 21), -1);
        Check.same("order(21, 20)", x.order(21, 20), 1);
        Check.same("wear(2, 0, 0)", x.wear(2, 0, 0), true);
        Check.same("like stages are no order", x.order(20, 22), 0);
        Check.same("order(22, 21)", x.order(22, 21), -1);
        Check.same("a row on top", x.row(21, 30), true);
        Check.same("order(22, 30) over stages and a row", x.order(22, 30), -1);
        Check.same("wear(1, 0, NONE)", x.wear(1, 0, -1), true);
        Check.same("order(20, 21) without the stage", x.order(20, 21), 0);
        Check.same("wear(2, 1, 4)", x.wear(2, 1, 4), true);
        Check.same("wear(3, 1, 3)", x.wear(3, 1, 3), true);
        Check.same("fronts by stages of the back", x.order(9, 0), -1);
    }

    private static void stagesOfOneDieAlone() {
        DieGraphs x = new DieGraphs();
        x.coin(0, 20, 1);
        x.coin(0, 20, 1);
        x.coin(1, 21, 1);
        Check.same("wear(0, 0, 1)", x.wear(0, 0, 1), true);
        Check.same("the other die is the same: no ring", x.wear(1, 0, 2), true);
        Check.same("another die's stage", x.wear(2, 0, 9), true);
        Check.same("stages of two dies are no order", x.order(20, 21), 0);
        Check.same("no ring was told", x.ring(0), -1);
    }

    private static void wearIsRefusedByARing() {
        DieGraphs x = new DieGraphs();
        x.coin(0, 20, 1);
        x.coin(0, 21, 1);
        x.row(21, 20);
        x.wear(0, 0, 5);
        Check.same("wear(1, 0, 4)", x.wear(1, 0, 4), true);
        Check.same("wear(1, 0, 6) would be a ring", x.wear(1, 0, 6), false);
        Check.same("its ring", Check.ring(x), "20 21");
        x.coin(0, 22, 1);
        x.wear(2, 0, 4);
        Check.same("the stage is 4 still", x.order(22, 21), 0);
        x.wear(2, 0, 3);
        Check.same("behind 3", x.order(22, 21), -1);
        Check.same("wear(1, 0, 4) again", x.wear(1, 0, 4), true);
    }

    private static void wearInDoubt() {
        DieGraphs x = new DieGraphs();
        x.coin(0, 20, 1);
        x.coin(0, 21, 1);
        x.row(21, 20);
        x.wear(0, 0, 5);
        x.doubt(1, true);
        Check.same("wear(1, 0, 6) in doubt", x.wear(1, 0, 6), true);
        Check.same("no ring was told", x.ring(0), -1);
        Check.same("the stage is kept", x.doubt(1, false), false);
        Check.same("the ring", Check.ring(x), "20 21");
        Check.same("wear(1, 0, 2) in doubt", x.wear(1, 0, 2), true);
        Check.same("doubt(1, false)", x.doubt(1, false), true);
        Check.same("order(21, 20)", x.order(21, 20), -1);
    }

    private static void wrongWear() {
        DieGraphs x = new DieGraphs();
        x.coin(0, 20, 1);
        x.coin(0, 21, 1);
        x.wear(0, 0, 5);
        x.wear(1, 0, 6);
        int[] far = {Integer.MIN_VALUE, Integer.MAX_VALUE};
        for (int wrong : new int[] {-1, 2, far[0], far[1]}) {
            Check.noIndex("wear(" + wrong + ", 0, 1)", () -> x.wear(wrong, 0, 1) ? 1 : 0);
            Check.noIndex("wear(0, " + wrong + ", 1)", () -> x.wear(0, wrong, 1) ? 1 : 0);
            Check.noIndex("wear(" + wrong + ", 0, 10)", () -> x.wear(wrong, 0, 10) ? 1 : 0);
            Check.noIndex("wear(0, " + wrong + ", -2)", () -> x.wear(0, wrong, -2) ? 1 : 0);
        }
        for (int stage : new int[] {-2, 10, far[0], far[1]}) {
            Check.noArgument("wear(0, 0, " + stage + ")", () -> x.wear(0, 0, stage) ? 1 : 0);
            Check.noArgument("wear(1, 1, " + stage + ")", () -> x.wear(1, 1, stage) ? 1 : 0);
        }
        Check.same("order(20, 21) after wrong calls", x.order(20, 21), -1);
        Check.same("no ring was told", x.ring(0), -1);
    }

    private static void shortestRing() {
        DieGraphs x = new DieGraphs();
        x.row(0, 1);
        x.row(1, 2);
        x.row(2, 3);
        x.row(3, 9);
        x.row(7, 8);
        x.row(8, 9);
        x.row(0, 7);
        Check.same("row(9, 0)", x.row(9, 0), false);
        Check.same("the shortest one", Check.ring(x), "0 7 8 9");
    }

    private static void lowestRing() {
        DieGraphs x = new DieGraphs();
        x.row(5, 8);
        x.row(8, 3);
        x.row(5, 4);
        x.row(4, 6);
        x.row(6, 3);
        x.row(5, 7);
        x.row(7, 3);
        Check.same("row(3, 5)", x.row(3, 5), false);
        Check.same("from its lowest die, over the lower one", Check.ring(x), "3 5 7");
    }

    private static void longestRing() {
        DieGraphs x = new DieGraphs();
        for (int die = 16; die < 31; die++) {
            x.row(die, die + 1);
        }
        Check.same("order(16, 31)", x.order(16, 31), -1);
        Check.same("row(31, 16)", x.row(31, 16), false);
        Check.same("a ring of all", Check.ring(x), "16 17 18 19 20 21 22 23 24 25 26 27 28 29 30 31");
        Check.same("ring(15)", x.ring(15), 31);
        Check.same("ring(16)", x.ring(16), -1);
        Check.same("ring(far)", x.ring(Integer.MAX_VALUE), -1);
        Check.same("row(17, 16)", x.row(17, 16), false);
        Check.same("a shorter ring", Check.ring(x), "16 17");
        Check.same("nothing behind its end", x.ring(2), -1);
    }

    private static void ringOfTheBack() {
        DieGraphs x = new DieGraphs();
        x.coin(3, 31, 1);
        x.coin(3, 30, 1);
        x.coin(4, 30, 1);
        x.coin(4, 31, 1);
        x.wear(0, 0, 1);
        x.wear(1, 0, 2);
        x.wear(2, 0, 1);
        Check.same("stages of another die against", x.wear(3, 0, 2), false);
        Check.same("the ring of two dies' stages", Check.ring(x), "30 31");
        Check.same("like stages", x.wear(3, 0, 1), true);
    }

    /** A coin that comes out of doubt may make rings of both sides at once. */
    private static void ringsOfBothSides() {
        DieGraphs x = new DieGraphs();
        x.coin(1, 17, 1);
        x.coin(1, 18, 1);
        x.coin(2, 17, 1);
        x.wear(0, 0, 1);
        x.wear(1, 0, 2);
        x.wear(0, 1, 1);
        x.wear(2, 1, 2);
        x.doubt(0, true);
        x.row(18, 17);
        x.row(2, 1);
        Check.same("doubt(0, false)", x.doubt(0, false), false);
        Check.same("the lower ring is of the front", Check.ring(x), "1 2");
    }

    private static void ringIsKept() {
        DieGraphs x = new DieGraphs();
        x.coin(0, 16, 1);
        x.row(1, 2);
        Check.same("row(2, 1)", x.row(2, 1), false);
        x.row(2, 3);
        x.wear(0, 0, 1);
        x.doubt(0, true);
        x.doubt(0, false);
        Check.same("whatever went well since", Check.ring(x), "1 2");
        Check.noIndex("ring(-1)", () -> x.ring(-1));
        Check.noIndex("ring(least)", () -> x.ring(Integer.MIN_VALUE));
        Check.noArgument("row(1, 16)", () -> x.row(1, 16) ? 1 : 0);
        Check.same("whatever went wrong since", Check.ring(x), "1 2");
    }

    private static void wrongOrder() {
        DieGraphs x = new DieGraphs();
        for (int die : new int[] {-1, 32, Integer.MIN_VALUE, Integer.MAX_VALUE}) {
            Check.noIndex("order(" + die + ", 0)", () -> x.order(die, 0));
            Check.noIndex("order(0, " + die + ")", () -> x.order(0, die));
            Check.noIndex("order(" + die + ", 31)", () -> x.order(die, 31));
            Check.noIndex("order(31, " + die + ")", () -> x.order(31, die));
        }
        Check.noArgument("order(0, 16)", () -> x.order(0, 16));
        Check.noArgument("order(31, 15)", () -> x.order(31, 15));
    }
}
