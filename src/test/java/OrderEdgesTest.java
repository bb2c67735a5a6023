/** The boundary cases of promises 5 row, 6 ring, 7 order: a method for each, its words above it. */
public final class OrderEdgesTest {
    private static final String INDEX = "IndexOutOfBoundsException";

    public static void main(String[] args) {
        rowOfADieAndItself();
        rowThatIsToldAlready();
        rowAtTheEdgeOfARing();
        rowOfNoDie();
        rowOfTwoSides();
        row60();
        refusedRowsTakeNoRoom();
        ringThatWasNotTold();
        placesOfARing();
        ringThatWasToldLatest();
        whateverWentWellSince();
        whateverWasThrownSince();
        placeBelow0();
        earlierLaterNeither();
        orderOfNoDie();
        orderOfTwoSides();
        Check.done();
    }

    /** A row (of a die and itself: a ring of one ..). */
    private static void rowOfADieAndItself() {
        DieGraphs x = new DieGraphs();
        x.row(0, 1);
        x.row(30, 31);
        for (int die : new int[] {0, 1, 15, 16, 30, 31}) {
            Check.same("row(" + die + ", " + die + ")", x.row(die, die), false);
            Check.same("its ring", Check.ring(x), Integer.toString(die));
            Check.same("nothing behind it", x.ring(1), -1);
        }
        Check.same("rows", x.count(2), 2);
        Check.same("the order stays", x.order(0, 1), -1);
    }

    /** (.. one that is told already counts once more). */
    private static void rowThatIsToldAlready() {
        DieGraphs x = new DieGraphs();
        for (int times = 1; times <= 60; times++) {
            Check.same("once more", x.row(31, 16), true);
            Check.same("rows", x.count(2), times);
        }
        Check.same("the order is the same", x.order(31, 16), -1);
        Check.noState("once too often", () -> x.row(31, 16) ? 1 : 0);
        DieGraphs y = new DieGraphs();
        y.row(1, 2);
        y.row(2, 3);
        Check.same("one that follows already", y.row(1, 3), true);
        Check.same("it counts, too", y.count(2), 3);
    }

    /** .. likewise: yes, if there is no ring then; else nothing changes, but that the ring is told. */
    private static void rowAtTheEdgeOfARing() {
        for (int last = 1; last < 16; last++) {
            DieGraphs x = new DieGraphs();
            StringBuilder ring = new StringBuilder("0");
            for (int die = 0; die < last; die++) {
                Check.same("one behind the other", x.row(die, die + 1), true);
                ring.append(' ').append(die + 1);
            }
            Check.same("the first before the last", x.row(0, last), true);
            Check.same("the last before the first", x.row(last, 0), false);
            Check.same("the ring is short by the row over all", Check.ring(x), "0 " + last);
            DieGraphs y = new DieGraphs();
            for (int die = 0; die < last; die++) {
                y.row(die, die + 1);
            }
            Check.same("the last before the first without it", y.row(last, 0), false);
            Check.same("the ring of all", Check.ring(y), ring.toString());
            Check.same("rows", y.count(2), last);
            Check.same("the order stays", y.order(0, last), -1);
            Check.same("and can be told still", y.row(0, last), true);
        }
    }

    /** IndexOutOfBoundsException. */
    private static void rowOfNoDie() {
        DieGraphs x = new DieGraphs();
        Check.range("the front's earlier die", 0, 31, INDEX, die -> x.row(die, die < 16 ? 5 : 20) ? 1 : 0);
        Check.range("the later die", 0, 31, INDEX, die -> x.row(die < 16 ? 5 : 20, die) ? 1 : 0);
        Check.range("both", 0, 31, INDEX, die -> x.row(die, die) ? 1 : 0);
        Check.same("rows", x.count(2), 2);
    }

    /** IllegalArgumentException: they are of two sides. */
    private static void rowOfTwoSides() {
        DieGraphs x = new DieGraphs();
        Check.noArgument("the last front and the first back", () -> x.row(15, 16) ? 1 : 0);
        Check.noArgument("the first back and the last front", () -> x.row(16, 15) ? 1 : 0);
        Check.noArgument("the first and the last die", () -> x.row(0, 31) ? 1 : 0);
        Check.noArgument("the last and the first die", () -> x.row(31, 0) ? 1 : 0);
        Check.noArgument("two first ones", () -> x.row(0, 16) ? 1 : 0);
        Check.same("the last two fronts", x.row(14, 15), true);
        Check.same("the first two backs", x.row(16, 17), true);
        Check.same("the first and the last front", x.row(0, 15), true);
        Check.same("the last and the first back", x.row(31, 16), true);
        Check.same("rows", x.count(2), 4);
    }

    /** IllegalStateException: there are 60. */
    private static void row60() {
        DieGraphs x = new DieGraphs();
        for (int i = 0; i < 59; i++) {
            Check.same("row " + i, x.row(i % 2 * 16, i % 2 * 16 + 1 + i % 15), true);
        }
        Check.same("a ring with room for one", x.row(1, 0), false);
        Check.same("its ring", Check.ring(x), "0 1");
        Check.same("row 59", x.row(2, 1), true);
        Check.noState("row 60", () -> x.row(0, 1) ? 1 : 0);
        Check.noState("row 60 with a ring of two", () -> x.row(2, 0) ? 1 : 0);
        Check.noState("row 60 with a ring of one", () -> x.row(5, 5) ? 1 : 0);
        Check.same("the ring is told still", Check.ring(x), "0 1");
        Check.same("rows", x.count(2), 60);
        Check.same("the last row counts", x.order(2, 1), -1);
    }

    private static void refusedRowsTakeNoRoom() {
        DieGraphs x = new DieGraphs();
        for (int i = 0; i < 60; i++) {
            Check.same("a ring of one", x.row(3, 3), false);
            Check.noArgument("two sides", () -> x.row(3, 20) ? 1 : 0);
            Check.noIndex("no die", () -> x.row(3, 32) ? 1 : 0);
            Check.same("row " + i, x.row(3, 4), true);
        }
        Check.noState("row 60", () -> x.row(3, 4) ? 1 : 0);
    }

    /** NONE .. if none was told. */
    private static void ringThatWasNotTold() {
        DieGraphs x = new DieGraphs();
        x.row(0, 1);
        x.coin(0, 16, 1);
        x.wear(0, 0, 1);
        for (int k : new int[] {0, 1, 15, 16, 31, 32, 33, Integer.MAX_VALUE}) {
            Check.same("ring(" + k + ")", x.ring(k), -1);
        }
    }

    /** Place k of the ring; NONE behind its end. */
    private static void placesOfARing() {
        DieGraphs x = new DieGraphs();
        for (int die = 0; die < 15; die++) {
            x.row(die, die + 1);
        }
        x.row(15, 0);
        for (int k = 0; k < 16; k++) {
            Check.same("ring(" + k + ")", x.ring(k), k);
        }
        for (int k : new int[] {16, 17, 31, 32, 33, Integer.MAX_VALUE}) {
            Check.same("ring(" + k + ")", x.ring(k), -1);
        }
        DieGraphs y = new DieGraphs();
        y.row(31, 31);
        Check.same("a ring of one, its last place", y.ring(0), 31);
        Check.same("behind it", y.ring(1), -1);
    }

    /** .. the ring that was told latest. */
    private static void ringThatWasToldLatest() {
        DieGraphs x = new DieGraphs();
        for (int die = 16; die < 31; die++) {
            x.row(die, die + 1);
        }
        x.row(31, 16);
        Check.same("a ring of sixteen", x.ring(15), 31);
        x.row(18, 17);
        Check.same("a shorter one", Check.ring(x), "17 18");
        Check.same("nothing is left of the longer one", x.ring(2), -1);
        x.row(20, 20);
        Check.same("a ring of one", Check.ring(x), "20");
        x.row(31, 16);
        Check.same("the longer one again", x.ring(15), 31);
    }

    /** (whatever went well since). */
    private static void whateverWentWellSince() {
        DieGraphs x = new DieGraphs();
        x.coin(0, 16, 1);
        x.row(1, 2);
        x.row(2, 1);
        Check.same("a row", x.row(2, 3), true);
        Check.same("ring after a row", Check.ring(x), "1 2");
        Check.same("a stage", x.wear(0, 0, 1), true);
        Check.same("ring after a stage", Check.ring(x), "1 2");
        Check.same("doubt", x.doubt(0, true), true);
        Check.same("no doubt", x.doubt(0, false), true);
        Check.same("no doubt, as it is", x.doubt(0, false), false);
        Check.same("ring after doubts", Check.ring(x), "1 2");
        x.coin(1, 17, 1);
        x.hoard();
        x.into(0, 1);
        Check.rule(x, ":1");
        x.order(1, 3);
        x.chain(1);
        Check.same("ring after all others", Check.ring(x), "1 2");
    }

    private static void whateverWasThrownSince() {
        DieGraphs x = new DieGraphs();
        x.coin(0, 16, 1);
        x.row(1, 2);
        x.row(2, 1);
        Check.noIndex("row", () -> x.row(32, 32) ? 1 : 0);
        Check.noArgument("row of two sides", () -> x.row(0, 16) ? 1 : 0);
        Check.noArgument("wear", () -> x.wear(0, 0, 10) ? 1 : 0);
        Check.noIndex("doubt", () -> x.doubt(1, false) ? 1 : 0);
        Check.noIndex("ring", () -> x.ring(-1));
        Check.same("the ring", Check.ring(x), "1 2");
    }

    /** IndexOutOfBoundsException: k is below 0. */
    private static void placeBelow0() {
        DieGraphs x = new DieGraphs();
        Check.noIndex("-1 with no ring", () -> x.ring(-1));
        Check.same("0 with no ring", x.ring(0), -1);
        x.row(4, 4);
        Check.noIndex("-1 with a ring", () -> x.ring(-1));
        Check.noIndex("the least with a ring", () -> x.ring(Integer.MIN_VALUE));
        Check.same("0 with a ring", x.ring(0), 4);
    }

    /** -1: a is earlier than b, 1: later, 0: neither. */
    private static void earlierLaterNeither() {
        for (int first : new int[] {0, 16}) {
            DieGraphs x = new DieGraphs();
            x.row(first, first + 15);
            x.row(first + 15, first + 7);
            Check.same("earlier", x.order(first, first + 15), -1);
            Check.same("later", x.order(first + 15, first), 1);
            Check.same("earlier over one", x.order(first, first + 7), -1);
            Check.same("later over one", x.order(first + 7, first), 1);
            Check.same("neither", x.order(first, first + 1), 0);
            Check.same("neither, the other way round", x.order(first + 1, first), 0);
            Check.same("itself", x.order(first + 15, first + 15), 0);
        }
        DieGraphs y = new DieGraphs();
        y.row(0, 2);
        y.row(1, 2);
        y.row(3, 4);
        y.row(3, 5);
        Check.same("two before one", y.order(0, 1), 0);
        Check.same("two behind one", y.order(4, 5), 0);
    }

    /** IndexOutOfBoundsException. */
    private static void orderOfNoDie() {
        DieGraphs x = new DieGraphs();
        Check.range("a", 0, 31, INDEX, die -> x.order(die, die < 16 ? 5 : 20));
        Check.range("b", 0, 31, INDEX, die -> x.order(die < 16 ? 5 : 20, die));
        Check.range("both", 0, 31, INDEX, die -> x.order(die, die));
    }

    /** IllegalArgumentException: they are of two sides. */
    private static void orderOfTwoSides() {
        DieGraphs x = new DieGraphs();
        Check.noArgument("the last front and the first back", () -> x.order(15, 16));
        Check.noArgument("the first back and the last front", () -> x.order(16, 15));
        Check.noArgument("the first and the last die", () -> x.order(0, 31));
        Check.noArgument("the last and the first die", () -> x.order(31, 0));
        Check.same("the last two fronts", x.order(14, 15), 0);
        Check.same("the first two backs", x.order(16, 17), 0);
    }
}
