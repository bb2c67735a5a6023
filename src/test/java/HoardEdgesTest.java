/** The boundary cases of promises 12 hoard, 13 into, 14 overlap, 15 linked: a method for each, its words above it. */
public final class HoardEdgesTest {
    private static final String INDEX = "IndexOutOfBoundsException";

    public static void main(String[] args) {
        eightHoards();
        intoOnce();
        intoSeveral();
        intoNoHoardOrCoin();
        overlapIfThereAreNone();
        overlapOfNone();
        overlapOfAll();
        overlapThatCanBeLessened();
        overlapOfOneHoard();
        overlapInDoubt();
        overlapOfNoHoardOrPart();
        linkedByADie();
        linkedBehindTheLast();
        linkedInDoubt();
        mostLinked();
        linkedOfNoCoinOrPlace();
        Check.done();
    }

    /** A hoard: its number. IllegalStateException: there are eight. */
    private static void eightHoards() {
        DieGraphs x = new DieGraphs();
        for (int number = 0; number < 8; number++) {
            Check.same("hoards", x.count(3), number);
            Check.same("a hoard", x.hoard(), number);
        }
        Check.noState("a ninth", () -> x.hoard());
        Check.noState("a ninth again", () -> x.hoard());
        Check.same("hoards", x.count(3), 8);
        x.coin(0, 16, 1);
        Check.same("into the last one", x.into(7, 0), true);
        Check.noIndex("into a ninth", () -> x.into(8, 0) ? 1 : 0);
    }

    /** A coin comes into a hoard: whether it was not in it. */
    private static void intoOnce() {
        DieGraphs x = new DieGraphs();
        x.hoard();
        x.coin(0, 16, 1);
        x.coin(0, 16, 1);
        Check.same("it was not", x.into(0, 0), true);
        Check.same("it was", x.into(0, 0), false);
        Check.same("it was, again", x.into(0, 0), false);
        Check.same("one of the same dies was not", x.into(0, 1), true);
        x.doubt(0, true);
        Check.same("it was, in doubt", x.into(0, 0), false);
        x.coin(0, 16, 1);
        x.doubt(2, true);
        Check.same("one in doubt was not", x.into(0, 2), true);
        Check.same("one in doubt was", x.into(0, 2), false);
        x.doubt(2, false);
        Check.same("it was, in doubt no more", x.into(0, 2), false);
    }

    /** (it may be in several). */
    private static void intoSeveral() {
        DieGraphs x = new DieGraphs();
        for (int i = 0; i < 80; i++) {
            x.coin(i % 16, 16, 1);
        }
        for (int hoard = 0; hoard < 8; hoard++) {
            x.hoard();
            for (int coin : new int[] {0, 31, 32, 63, 64, 79}) {
                Check.same("coin " + coin + " into " + hoard, x.into(hoard, coin), true);
                Check.same("coin " + coin + " into " + hoard + " again", x.into(hoard, coin), false);
            }
        }
        // fronts 0 and 15, back 16, in the first and in the last hoard
        overlap("two hoards of 80 coins", x, 0, 7, "1 / 1");
        x.into(7, 78);
        overlap("one more front in the last one", x, 0, 7, "3 / 4");
    }

    /** IndexOutOfBoundsException. */
    private static void intoNoHoardOrCoin() {
        DieGraphs x = new DieGraphs();
        for (int i = 0; i < 3; i++) {
            x.hoard();
            x.coin(0, 16, 1);
        }
        x.coin(0, 16, 1);
        Check.range("hoard", 0, 2, INDEX, hoard -> x.into(hoard, 3) ? 1 : 0);
        Check.range("coin", 0, 3, INDEX, coin -> x.into(2, coin) ? 1 : 0);
        Check.noIndex("neither", () -> x.into(3, 4) ? 1 : 0);
    }

    /** (0 / 1 if there are none). */
    private static void overlapIfThereAreNone() {
        DieGraphs x = new DieGraphs();
        x.hoard();
        x.hoard();
        overlap("no coins", x, 0, 1, "0 / 1");
        overlap("no coins, one hoard", x, 1, 1, "0 / 1");
        x.coin(0, 16, 1);
        overlap("no coins in them", x, 0, 1, "0 / 1");
        x.into(0, 0);
        x.doubt(0, true);
        overlap("none but in doubt", x, 0, 1, "0 / 1");
        overlap("none but in doubt, one hoard", x, 0, 0, "0 / 1");
    }

    private static void overlapOfNone() {
        DieGraphs x = new DieGraphs();
        x.hoard();
        x.hoard();
        x.coin(0, 16, 1);
        x.coin(15, 31, 1);
        x.into(0, 0);
        overlap("one has two, the other none", x, 0, 1, "0 / 1");
        x.into(1, 1);
        overlap("none of four", x, 0, 1, "0 / 1");
    }

    private static void overlapOfAll() {
        DieGraphs x = new DieGraphs();
        x.hoard();
        x.hoard();
        for (int i = 0; i < 16; i++) {
            x.coin(i, 16 + i, 1);
            x.into(0, i);
        }
        x.into(1, 0);
        overlap("2 / 32", x, 0, 1, "1 / 16");
        for (int i = 1; i < 15; i++) {
            x.into(1, i);
        }
        overlap("30 / 32", x, 0, 1, "15 / 16");
        x.coin(15, 16, 1);
        x.into(1, 16);
        overlap("31 / 32", x, 0, 1, "31 / 32");
        x.into(1, 15);
        overlap("32 / 32", x, 0, 1, "1 / 1");
    }

    /** The dies that two hoards share, over those that one of them has: a fraction that cannot be lessened. */
    private static void overlapThatCanBeLessened() {
        DieGraphs x = new DieGraphs();
        x.hoard();
        x.hoard();
        x.coin(0, 16, 1);
        x.coin(0, 17, 1);
        x.coin(1, 18, 1);
        x.into(0, 0);
        x.into(1, 1);
        overlap("1 / 3", x, 0, 1, "1 / 3");
        overlap("the other way round", x, 1, 0, "1 / 3");
        x.into(1, 0);
        overlap("2 / 3", x, 0, 1, "2 / 3");
        x.into(0, 2);
        overlap("2 / 5", x, 0, 1, "2 / 5");
        x.coin(9, 17, 1);
        x.into(0, 3);
        overlap("3 / 6", x, 0, 1, "1 / 2");
        overlap("3 / 6, the other way round", x, 1, 0, "1 / 2");
    }

    private static void overlapOfOneHoard() {
        DieGraphs x = new DieGraphs();
        x.hoard();
        x.coin(0, 16, 1);
        x.coin(1, 16, 1);
        overlap("without coins", x, 0, 0, "0 / 1");
        x.into(0, 0);
        overlap("with a coin", x, 0, 0, "1 / 1");
        x.into(0, 1);
        overlap("with two coins", x, 0, 0, "1 / 1");
    }

    private static void overlapInDoubt() {
        DieGraphs x = new DieGraphs();
        x.hoard();
        x.hoard();
        x.coin(0, 16, 1);
        x.coin(0, 17, 1);
        x.coin(0, 18, 1);
        x.into(0, 0);
        x.into(1, 1);
        x.into(1, 2);
        overlap("1 / 4", x, 0, 1, "1 / 4");
        x.doubt(2, true);
        overlap("1 / 3 without one in doubt", x, 0, 1, "1 / 3");
        x.doubt(0, true);
        overlap("0 / 2 without another one", x, 0, 1, "0 / 1");
        x.doubt(0, false);
        x.doubt(2, false);
        overlap("1 / 4 again", x, 0, 1, "1 / 4");
    }

    /** IndexOutOfBoundsException: hoards or part. */
    private static void overlapOfNoHoardOrPart() {
        DieGraphs x = new DieGraphs();
        x.hoard();
        x.hoard();
        x.hoard();
        Check.range("a", 0, 2, INDEX, hoard -> x.overlap(hoard, 2, 0));
        Check.range("b", 0, 2, INDEX, hoard -> x.overlap(2, hoard, 1));
        Check.range("both", 0, 2, INDEX, hoard -> x.overlap(hoard, hoard, 1));
        Check.range("part", 0, 1, INDEX, part -> x.overlap(0, 2, part));
        Check.noIndex("none of them", () -> x.overlap(3, 3, 2));
    }

    /** The k-th other coin, by numbers, that has a die of a coin. */
    private static void linkedByADie() {
        DieGraphs x = new DieGraphs();
        x.coin(15, 31, 1);
        Check.same("the coin itself is none", x.linked(0, 0), -1);
        x.coin(14, 30, 1);
        Check.same("a coin of other dies is none", x.linked(0, 0), -1);
        x.coin(15, 30, 1);
        Check.same("by the front", x.linked(0, 0), 2);
        Check.same("by the back", x.linked(1, 0), 2);
        x.coin(15, 31, 1);
        Check.same("by both, behind one by the front", x.linked(0, 1), 3);
        Check.same("by both, once alone", x.linked(0, 2), -1);
        Check.same("the lower number first", x.linked(3, 0), 0);
        Check.same("then the higher one", x.linked(3, 1), 2);
        Check.same("not over other coins", x.linked(1, 1), -1);
    }

    /** NONE. */
    private static void linkedBehindTheLast() {
        DieGraphs x = new DieGraphs();
        for (int i = 0; i < 4; i++) {
            x.coin(0, 16 + i, 1);
        }
        Check.same("the first", x.linked(3, 0), 0);
        Check.same("the last", x.linked(3, 2), 2);
        Check.same("behind the last", x.linked(3, 3), -1);
        Check.same("far behind", x.linked(3, Integer.MAX_VALUE), -1);
    }

    /** Neither is in doubt. */
    private static void linkedInDoubt() {
        DieGraphs x = new DieGraphs();
        x.coin(0, 16, 1);
        x.coin(0, 16, 1);
        x.coin(0, 16, 1);
        x.doubt(1, true);
        Check.same("behind one in doubt", x.linked(0, 0), 2);
        Check.same("nothing behind it", x.linked(0, 1), -1);
        Check.same("of one in doubt", x.linked(1, 0), -1);
        x.doubt(2, true);
        Check.same("two in doubt", x.linked(1, 0), -1);
        x.doubt(1, false);
        Check.same("one in doubt", x.linked(1, 0), 0);
    }

    private static void mostLinked() {
        DieGraphs x = new DieGraphs();
        for (int i = 0; i < 80; i++) {
            x.coin(0, 16 + i % 16, 1);
        }
        Check.same("the first of the first", x.linked(0, 0), 1);
        Check.same("the last of the first", x.linked(0, 78), 79);
        Check.same("behind it", x.linked(0, 79), -1);
        Check.same("the last of the last", x.linked(79, 78), 78);
        Check.same("behind it", x.linked(79, 79), -1);
        Check.same("before itself", x.linked(40, 39), 39);
        Check.same("behind itself", x.linked(40, 40), 41);
    }

    /** IndexOutOfBoundsException: coin, or k is below 0. */
    private static void linkedOfNoCoinOrPlace() {
        DieGraphs x = new DieGraphs();
        x.coin(0, 16, 1);
        x.coin(0, 16, 1);
        x.coin(0, 16, 1);
        x.doubt(1, true);
        Check.range("coin", 0, 2, INDEX, coin -> x.linked(coin, 0));
        Check.same("place 0", x.linked(0, 0), 2);
        Check.noIndex("place -1", () -> x.linked(0, -1));
        Check.noIndex("the least place", () -> x.linked(0, Integer.MIN_VALUE));
        Check.noIndex("place -1 of a coin in doubt", () -> x.linked(1, -1));
        Check.noIndex("no coin, far behind", () -> x.linked(3, Integer.MAX_VALUE));
    }

    private static void overlap(String what, DieGraphs x, int a, int b, String due) {
        Check.fraction(what, x.overlap(a, b, 0), x.overlap(a, b, 1), due);
    }
}
