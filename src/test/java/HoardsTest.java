/** Promises 12 hoard, 13 into, 14 overlap. */
public final class HoardsTest {
    public static void main(String[] args) {
        mostHoards();
        into();
        overlaps();
        overlapsOverDoubt();
        wrongCalls();
        Check.done();
    }

    private static void mostHoards() {
        DieGraphs x = new DieGraphs();
        for (int i = 0; i < 8; i++) {
            Check.same("hoard " + i, x.hoard(), i);
        }
        Check.noState("hoard 8", () -> x.hoard());
        Check.same("count(3)", x.count(3), 8);
        x.coin(0, 16, 1);
        Check.same("into(7, 0)", x.into(7, 0), true);
        fraction(x, 7, 7, 1, 1);
        fraction(x, 7, 6, 0, 1);
    }

    private static void into() {
        DieGraphs x = new DieGraphs();
        x.hoard();
        x.hoard();
        x.coin(0, 16, 1);
        Check.same("into(0, 0)", x.into(0, 0), true);
        Check.same("into(0, 0) again", x.into(0, 0), false);
        Check.same("into(1, 0), too", x.into(1, 0), true);
        x.coin(1, 17, 1);
        x.doubt(1, true);
        Check.same("a coin in doubt", x.into(0, 1), true);
        Check.same("a coin in doubt again", x.into(0, 1), false);
        for (int i = 2; i < 80; i++) {
            x.coin(0, 16, 1);
            Check.same("into(1, " + i + ")", x.into(1, i), true);
        }
        Check.same("into(1, 79) again", x.into(1, 79), false);
        Check.same("into(0, 79)", x.into(0, 79), true);
    }

    private static void overlaps() {
        DieGraphs x = new DieGraphs();
        x.hoard();
        x.hoard();
        x.hoard();
        fraction(x, 0, 1, 0, 1);
        x.coin(0, 16, 1);
        x.coin(0, 31, 1);
        x.coin(15, 31, 1);
        x.coin(3, 20, 1);
        x.into(0, 0);
        x.into(0, 1);
        x.into(1, 2);
        fraction(x, 0, 1, 1, 4);
        fraction(x, 1, 0, 1, 4);
        fraction(x, 0, 0, 1, 1);
        fraction(x, 0, 2, 0, 1);
        fraction(x, 2, 2, 0, 1);
        x.into(1, 0);
        // 0 16 31 and 0 15 16 31
        fraction(x, 0, 1, 3, 4);
        x.into(0, 3);
        x.into(2, 3);
        // 0 3 16 20 31 and 3 20
        fraction(x, 0, 2, 2, 5);
        x.into(0, 2);
        // 0 3 15 16 20 31 and 3 20
        fraction(x, 0, 2, 1, 3);
    }

    private static void overlapsOverDoubt() {
        DieGraphs x = new DieGraphs();
        x.hoard();
        x.hoard();
        x.coin(0, 16, 1);
        x.coin(0, 17, 1);
        x.into(0, 0);
        x.into(1, 1);
        fraction(x, 0, 1, 1, 3);
        x.doubt(1, true);
        fraction(x, 0, 1, 0, 1);
        fraction(x, 1, 1, 0, 1);
        x.doubt(1, false);
        fraction(x, 0, 1, 1, 3);
    }

    private static void wrongCalls() {
        DieGraphs x = new DieGraphs();
        x.hoard();
        x.hoard();
        x.coin(0, 16, 1);
        x.coin(0, 16, 1);
        for (int wrong : new int[] {-1, 2, Integer.MIN_VALUE, Integer.MAX_VALUE}) {
            Check.noIndex("into(" + wrong + ", 0)", () -> x.into(wrong, 0) ? 1 : 0);
            Check.noIndex("into(0, " + wrong + ")", () -> x.into(0, wrong) ? 1 : 0);
            Check.noIndex("overlap(" + wrong + ", 0, 0)", () -> x.overlap(wrong, 0, 0));
            Check.noIndex("overlap(0, " + wrong + ", 0)", () -> x.overlap(0, wrong, 0));
            Check.noIndex("overlap(0, 1, " + wrong + ")", () -> x.overlap(0, 1, wrong));
        }
        Check.same("into(0, 0) after wrong calls", x.into(0, 0), true);
        Check.same("count(3)", x.count(3), 2);
    }

    private static void fraction(DieGraphs x, int a, int b, int dueAbove, int dueBelow) {
        Check.same("overlap of " + a + " and " + b, x.overlap(a, b, 0) + " / " + x.overlap(a, b, 1),
                dueAbove + " / " + dueBelow);
    }
}
