/** The boundary cases of promises 1 A new object, 2 coin, 3 doubt, 4 wear: a method for each, its words above it. */
public final class CoinEdgesTest {
    private static final String INDEX = "IndexOutOfBoundsException";
    private static final String ARGUMENT = "IllegalArgumentException";

    public static void main(String[] args) {
        newObjectHoldsNothing();
        newObjectHasNoNumbers();
        newObjectTakesAll();
        coinHasTheNextNumber();
        coinOfNoDie();
        coinOfNoWeight();
        coin80();
        doubtAndNoDoubt();
        doubtIsNeverARing();
        noDoubtOnlyWithoutARing();
        noDoubtThatIsSoAlready();
        doubtOfNoCoin();
        wearOfEachSide();
        wearWithNone();
        wearAtTheEdgeOfARing();
        wearThatIsRefused();
        wearInDoubt();
        wearOfNoCoinOrSide();
        wearOfNoStage();
        Check.done();
    }

    /** No coins, rows, hoards, rules. */
    private static void newObjectHoldsNothing() {
        DieGraphs x = new DieGraphs();
        for (int what = 0; what <= 5; what++) {
            Check.same("count(" + what + ")", x.count(what), 0);
        }
        Check.same("chains", x.chains(), 0);
        Check.same("no ring", x.ring(0), -1);
        Check.same("no ring, far behind", x.ring(Integer.MAX_VALUE), -1);
        for (int die = 0; die < 32; die++) {
            Check.same("chain of " + die, x.chain(die), die);
            Check.fraction("mean of " + die, x.mean(die, 0), x.mean(die, 1), "0 / 1");
        }
        Check.fraction("dies of the front", x.dies(0, 0), x.dies(0, 1), "0 / 1");
        Check.fraction("dies of the back", x.dies(1, 0), x.dies(1, 1), "0 / 1");
        noOrder(0);
        noOrder(16);
    }

    private static void noOrder(int first) {
        DieGraphs x = new DieGraphs();
        for (int a = first; a < first + 16; a++) {
            for (int b = first; b < first + 16; b++) {
                Check.same("order(" + a + ", " + b + ")", x.order(a, b), 0);
            }
        }
    }

    private static void newObjectHasNoNumbers() {
        DieGraphs x = new DieGraphs();
        Check.noIndex("doubt", () -> x.doubt(0, true) ? 1 : 0);
        Check.noIndex("no doubt", () -> x.doubt(0, false) ? 1 : 0);
        Check.noIndex("wear", () -> x.wear(0, 0, 0) ? 1 : 0);
        Check.noIndex("linked", () -> x.linked(0, 0));
        Check.noIndex("type", () -> x.type(0));
        Check.noIndex("overlap", () -> x.overlap(0, 0, 0));
        Check.noIndex("into with neither", () -> x.into(0, 0) ? 1 : 0);
        x.hoard();
        Check.noIndex("into without a coin", () -> x.into(0, 0) ? 1 : 0);
        DieGraphs y = new DieGraphs();
        y.coin(0, 16, 1);
        Check.noIndex("into without a hoard", () -> y.into(0, 0) ? 1 : 0);
    }

    private static void newObjectTakesAll() {
        Check.same("its first coin", new DieGraphs().coin(0, 16, 1), 0);
        Check.same("its first row", new DieGraphs().row(0, 1), true);
        Check.same("its first hoard", new DieGraphs().hoard(), 0);
        Check.same("its empty text", new DieGraphs().rule(), -1);
        Check.same("its first signs", new DieGraphs().unit(0x313a, 0, 0, 0), 2);
        Check.same("its first rule", Check.rule(new DieGraphs(), ":1"), 0);
    }

    /** A coin: its number. */
    private static void coinHasTheNextNumber() {
        DieGraphs x = new DieGraphs();
        Check.same("the first", x.coin(3, 19, 4), 0);
        Check.noIndex("a refused one", () -> x.coin(3, 3, 4));
        Check.noArgument("another refused one", () -> x.coin(3, 19, 0));
        Check.same("one like the first has the next number", x.coin(3, 19, 4), 1);
        x.doubt(1, true);
        Check.same("one behind a coin in doubt", x.coin(3, 19, 4), 2);
        Check.same("it is not in doubt", x.count(1), 1);
        Check.same("it has no stage", x.wear(2, 0, -1), true);
    }

    /** IndexOutOfBoundsException: front is not 0 .. 15, or back not 16 .. 31. */
    private static void coinOfNoDie() {
        DieGraphs x = new DieGraphs();
        Check.range("front", 0, 15, INDEX, front -> x.coin(front, 16, 1));
        Check.range("front with the last back", 0, 15, INDEX, front -> x.coin(front, 31, 1));
        Check.range("back", 16, 31, INDEX, back -> x.coin(0, back, 1));
        Check.range("back with the last front", 16, 31, INDEX, back -> x.coin(15, back, 1));
        Check.noIndex("neither", () -> x.coin(16, 15, 1));
        Check.same("the coins that were taken", x.count(0), 8);
        Check.same("the dies that were taken", x.dies(0, 0) + x.dies(1, 0), 4);
    }

    /** IllegalArgumentException: milligrams. */
    private static void coinOfNoWeight() {
        DieGraphs x = new DieGraphs();
        Check.range("milligrams", 1, 1000000, ARGUMENT, milligrams -> x.coin(0, 16, milligrams));
        Check.same("the coins that were taken", x.count(0), 2);
        Check.fraction("their weight", x.mean(0, 0), x.mean(0, 1), "1000001 / 2");
    }

    /** IllegalStateException: there are 80. */
    private static void coin80() {
        DieGraphs x = new DieGraphs();
        for (int i = 0; i < 79; i++) {
            x.coin(0, 16, 1);
        }
        Check.noArgument("with room for one", () -> x.coin(0, 16, 0));
        Check.same("the last one", x.coin(15, 31, 1000000), 79);
        Check.noState("no room", () -> x.coin(15, 31, 1000000));
        x.doubt(79, true);
        Check.noState("no room behind one in doubt", () -> x.coin(15, 31, 1000000));
        Check.same("coins", x.count(0), 80);
        x.doubt(79, false);
        Check.fraction("the last one's weight", x.mean(31, 0), x.mean(31, 1), "1000000 / 1");
    }

    /** A coin is in doubt, or not: whether that was so done and it was not so. */
    private static void doubtAndNoDoubt() {
        DieGraphs x = new DieGraphs();
        x.coin(0, 16, 1);
        x.coin(0, 16, 1);
        Check.same("a new coin is not", x.doubt(0, false), false);
        Check.same("in doubt", x.doubt(0, true), true);
        Check.same("it is so already", x.doubt(0, true), false);
        Check.same("one in doubt", x.count(1), 1);
        Check.same("the other one", x.doubt(1, true), true);
        Check.same("two in doubt", x.count(1), 2);
        Check.same("not in doubt", x.doubt(0, false), true);
        Check.same("it is not so already", x.doubt(0, false), false);
        Check.same("the other one still is", x.count(1), 1);
        Check.same("in doubt again", x.doubt(0, true), true);
    }

    private static void doubtIsNeverARing() {
        DieGraphs x = new DieGraphs();
        x.coin(0, 20, 1);
        x.coin(0, 21, 1);
        x.wear(0, 0, 0);
        x.wear(1, 0, 9);
        Check.same("against the stages", x.row(21, 20), false);
        Check.same("doubt", x.doubt(0, true), true);
        Check.same("with them no more", x.row(21, 20), true);
        Check.same("doubt of the other one", x.doubt(1, true), true);
        Check.same("the ring is that of the row", Check.ring(x), "20 21");
    }

    /** (not: only if no ring would be; the ring is told then, as with wear()). */
    private static void noDoubtOnlyWithoutARing() {
        for (int stage = 0; stage <= 9; stage++) {
            DieGraphs x = new DieGraphs();
            x.coin(0, 20, 1);
            x.coin(0, 21, 1);
            x.doubt(1, true);
            x.wear(0, 0, 5);
            x.wear(1, 0, stage);
            x.row(21, 20);
            boolean ring = stage > 5;
            Check.same("no doubt with stage " + stage, x.doubt(1, false), !ring);
            Check.same("its ring", Check.ring(x), ring ? "20 21" : "");
            Check.same("in doubt still", x.count(1), ring ? 1 : 0);
            Check.same("the order still", x.order(21, 20), -1);
            Check.same("the chain", x.chain(21), ring ? 21 : 0);
            Check.same("again", x.doubt(1, false), false);
        }
    }

    private static void noDoubtThatIsSoAlready() {
        DieGraphs x = new DieGraphs();
        x.coin(0, 20, 1);
        x.coin(0, 21, 1);
        x.wear(0, 0, 5);
        x.wear(1, 0, 6);
        Check.same("no doubt", x.doubt(1, false), false);
        Check.same("that tells no ring", x.ring(0), -1);
        x.row(20, 20);
        Check.same("no doubt again", x.doubt(1, false), false);
        Check.same("the ring stays", Check.ring(x), "20");
    }

    /** IndexOutOfBoundsException. */
    private static void doubtOfNoCoin() {
        DieGraphs x = new DieGraphs();
        x.coin(0, 16, 1);
        x.coin(0, 16, 1);
        x.coin(0, 16, 1);
        Check.range("doubt", 0, 2, INDEX, coin -> x.doubt(coin, true) ? 1 : 0);
        Check.range("no doubt", 0, 2, INDEX, coin -> x.doubt(coin, false) ? 1 : 0);
        Check.same("none in doubt", x.count(1), 0);
    }

    /** A coin's stage of its front (side 0) or back die (1). */
    private static void wearOfEachSide() {
        DieGraphs x = new DieGraphs();
        x.coin(4, 20, 1);
        x.coin(4, 21, 1);
        x.coin(5, 20, 1);
        x.wear(0, 0, 0);
        x.wear(1, 0, 1);
        Check.same("the front's stages order backs", x.order(20, 21), -1);
        Check.same("and no fronts", x.order(4, 5), 0);
        x.wear(0, 1, 9);
        x.wear(2, 1, 8);
        Check.same("the back's stages order fronts", x.order(5, 4), -1);
        Check.same("and leave backs", x.order(20, 21), -1);
    }

    /** NONE: it has none. */
    private static void wearWithNone() {
        DieGraphs x = new DieGraphs();
        x.coin(0, 20, 1);
        x.coin(0, 21, 1);
        Check.same("none where there was none", x.wear(0, 0, DieGraphs.NONE), true);
        x.wear(0, 0, 0);
        x.wear(1, 0, 9);
        Check.same("a stage", x.order(20, 21), -1);
        Check.same("none", x.wear(0, 0, DieGraphs.NONE), true);
        Check.same("no stage, not one below 0", x.order(20, 21), 0);
        Check.same("the other way round", x.row(21, 20), true);
        Check.same("the stage again, which is a ring now", x.wear(0, 0, 0), false);
        Check.same("none again", x.wear(0, 0, DieGraphs.NONE), true);
    }

    /** Yes, if there is no ring then. */
    private static void wearAtTheEdgeOfARing() {
        for (int stage = -1; stage <= 9; stage++) {
            DieGraphs x = new DieGraphs();
            x.coin(3, 31, 1);
            x.coin(3, 30, 1);
            x.row(30, 31);
            x.wear(0, 0, 4);
            boolean ring = stage > 4;
            Check.same("stage " + stage + " beside 4", x.wear(1, 0, stage), !ring);
            Check.same("its ring", Check.ring(x), ring ? "30 31" : "");
            DieGraphs y = new DieGraphs();
            y.coin(15, 16, 1);
            y.coin(14, 16, 1);
            y.row(14, 15);
            y.wear(0, 1, 4);
            Check.same("stage " + stage + " of the back beside 4", y.wear(1, 1, stage), !ring);
            Check.same("its ring", Check.ring(y), ring ? "14 15" : "");
        }
    }

    /** Else nothing changes, but that the ring is told. */
    private static void wearThatIsRefused() {
        for (int old = -1; old <= 4; old++) {
            DieGraphs x = new DieGraphs();
            x.coin(3, 31, 1);
            x.coin(3, 30, 1);
            x.coin(3, 29, 1);
            x.row(30, 31);
            x.wear(0, 0, 4);
            x.wear(1, 0, old);
            Check.same("a ring", x.wear(1, 0, 9), false);
            // A coin of the stage just behind the old one is behind it, one of the same stage is not.
            Check.same("a stage as the old one", x.wear(2, 0, old), true);
            Check.same("no order", x.order(30, 29), 0);
            x.wear(2, 0, old + 1);
            Check.same("behind the old stage " + old, x.order(30, 29), old < 0 ? 0 : -1);
        }
    }

    /** (always, if the coin is in doubt; the stage is kept). */
    private static void wearInDoubt() {
        DieGraphs x = new DieGraphs();
        x.coin(3, 31, 1);
        x.coin(3, 30, 1);
        x.row(30, 31);
        x.wear(0, 0, 4);
        x.doubt(1, true);
        for (int stage = -1; stage <= 9; stage++) {
            Check.same("stage " + stage + " in doubt", x.wear(1, 0, stage), true);
            Check.same("stage " + stage + " of the back in doubt", x.wear(1, 1, stage), true);
        }
        Check.same("no ring was told", x.ring(0), -1);
        Check.same("the stage is kept", x.doubt(1, false), false);
        Check.same("its ring", Check.ring(x), "30 31");
        Check.same("the stage is kept by a refused call", x.doubt(1, false), false);
        x.wear(1, 0, 3);
        Check.same("another stage is kept", x.doubt(1, false), true);
        Check.same("a coin with it", x.wear(1, 0, 5), false);
        x.doubt(1, true);
        x.doubt(1, false);
        x.coin(3, 29, 1);
        x.wear(2, 0, 4);
        Check.same("the stage is kept over doubt and no doubt", x.order(30, 29), -1);
    }

    /** IndexOutOfBoundsException: coin or side. */
    private static void wearOfNoCoinOrSide() {
        DieGraphs x = new DieGraphs();
        x.coin(0, 16, 1);
        x.coin(0, 17, 1);
        x.coin(0, 18, 1);
        Check.range("coin", 0, 2, INDEX, coin -> x.wear(coin, 1, 9) ? 1 : 0);
        Check.range("side", 0, 1, INDEX, side -> x.wear(1, side, 9) ? 1 : 0);
        x.doubt(1, true);
        Check.range("side of a coin in doubt", 0, 1, INDEX, side -> x.wear(1, side, 9) ? 1 : 0);
    }

    /** IllegalArgumentException: stage is not NONE .. 9. */
    private static void wearOfNoStage() {
        DieGraphs x = new DieGraphs();
        x.coin(0, 16, 1);
        Check.range("stage of the front", -1, 9, ARGUMENT, stage -> x.wear(0, 0, stage) ? 1 : 0);
        Check.range("stage of the back", -1, 9, ARGUMENT, stage -> x.wear(0, 1, stage) ? 1 : 0);
        x.doubt(0, true);
        Check.range("stage in doubt", -1, 9, ARGUMENT, stage -> x.wear(0, 0, stage) ? 1 : 0);
    }
}
