/** The boundary cases that 'What it is' and 'Terms' name: a method for each sentence, which stands above it. */
public final class TermsEdgesTest {
    private static final String INDEX = "IndexOutOfBoundsException";
    private static final String ARGUMENT = "IllegalArgumentException";
    private static final String ANSWER = "an answer";

    public static void main(String[] args) {
        lastOf512Calls();
        dies();
        coins();
        milligrams();
        doubt();
        chainOverAnyOthers();
        dieWithoutCoins();
        rows();
        rowsOfOneSide();
        stages();
        noStage();
        otherDiesThatAreTheSame();
        oneBehindTheOther();
        noDieIsEarlierThanItself();
        ringsByRowsAndByStages();
        shortestRing();
        lowerRing();
        hoards();
        shares();
        rules();
        signs();
        conditions();
        dieConditions();
        weightConditions();
        doubtCondition();
        digits();
        firstRule();
        indexBeforeArgumentBeforeState();
        Check.done();
    }

    /** An object is used for at most 512 calls after it has been made. */
    private static void lastOf512Calls() {
        Check.same("call 512, coin", usedFor511Calls().coin(0, 16, 1), 2);
        Check.same("call 512, doubt", usedFor511Calls().doubt(1, true), true);
        Check.same("call 512, wear", usedFor511Calls().wear(0, 1, 5), true);
        Check.same("call 512, wear with a ring", usedFor511Calls().wear(1, 1, 3), false);
        Check.same("call 512, row", usedFor511Calls().row(1, 2), true);
        Check.same("call 512, row with a ring", usedFor511Calls().row(2, 1), false);
        Check.same("call 512, ring", usedFor511Calls().ring(0), -1);
        Check.same("call 512, order", usedFor511Calls().order(1, 2), -1);
        Check.same("call 512, chain", usedFor511Calls().chain(17), 1);
        Check.same("call 512, chains", usedFor511Calls().chains(), 1);
        Check.same("call 512, dies", usedFor511Calls().dies(0, 1), 0);
        Check.same("call 512, mean", usedFor511Calls().mean(17, 0), 13);
        Check.same("call 512, hoard", usedFor511Calls().hoard(), 2);
        Check.same("call 512, into", usedFor511Calls().into(1, 0), true);
        Check.same("call 512, overlap", usedFor511Calls().overlap(0, 1, 1), 3);
        Check.same("call 512, linked", usedFor511Calls().linked(0, 0), 1);
        Check.same("call 512, unit", usedFor511Calls().unit(1, 0, 0, 0), 2);
        Check.same("call 512, rule", usedFor511Calls().rule(), -2);
        Check.same("call 512, type", usedFor511Calls().type(1), 7);
        Check.same("call 512, count", usedFor511Calls().count(2), 1);
    }

    private static DieGraphs usedFor511Calls() {
        DieGraphs x = new DieGraphs();
        x.coin(1, 17, 6);
        x.coin(2, 17, 7);
        x.wear(0, 1, 4);
        x.wear(1, 1, 5);
        x.hoard();
        x.hoard();
        x.into(0, 0);
        x.into(1, 1);
        x.unit(0x373a, 0, 0, 0);
        x.rule();
        x.unit(0x78, 0, 0, 0);
        x.row(1, 2);
        for (int call = 12; call < 511; call++) {
            x.count(0);
        }
        return x;
    }

    /** DIES are 0 .. 31: 0 .. 15 of the front, 16 .. 31 of the back. */
    private static void dies() {
        Check.range("coin's front", 0, 15, INDEX, front -> new DieGraphs().coin(front, 16, 1));
        Check.range("coin's back", 16, 31, INDEX, back -> new DieGraphs().coin(0, back, 1));
        Check.range("chain's die", 0, 31, INDEX, die -> new DieGraphs().chain(die));
        Check.range("mean's die", 0, 31, INDEX, die -> new DieGraphs().mean(die, 0));
        Check.range("row's dies", 0, 31, INDEX, die -> new DieGraphs().row(die, die) ? 1 : 0);
        Check.range("order's dies", 0, 31, INDEX, die -> new DieGraphs().order(die, die));
        Check.same("a coin of the last front", new DieGraphs().coin(15, 16, 1), 0);
        Check.noIndex("a back for a front", () -> new DieGraphs().coin(16, 16, 1));
        Check.noIndex("a front for a back", () -> new DieGraphs().coin(15, 15, 1));
        Check.noIndex("front and back, the wrong way round", () -> new DieGraphs().coin(16, 15, 1));
    }

    /** COINS are 0, 1, .. , at most 80. */
    private static void coins() {
        DieGraphs x = new DieGraphs();
        x.hoard();
        for (int number = 0; number < 80; number++) {
            int next = number;
            Check.noIndex("type of a coin before it is there", () -> x.type(next));
            Check.same("the next coin", x.coin(15, 31, 1), number);
        }
        Check.noState("the coin behind the last one", () -> x.coin(15, 31, 1));
        Check.range("doubt's coin", 0, 79, INDEX, coin -> x.doubt(coin, true) ? 1 : 0);
        Check.range("wear's coin", 0, 79, INDEX, coin -> x.wear(coin, 0, 1) ? 1 : 0);
        Check.range("into's coin", 0, 79, INDEX, coin -> x.into(0, coin) ? 1 : 0);
        Check.range("linked's coin", 0, 79, INDEX, coin -> x.linked(coin, 0));
        Check.range("type's coin", 0, 79, INDEX, coin -> x.type(coin));
    }

    /** .. each with a front and a back die and MILLIGRAMS 1 .. 1000000. */
    private static void milligrams() {
        Check.range("milligrams", 1, 1000000, ARGUMENT, milligrams -> new DieGraphs().coin(0, 16, milligrams));
        DieGraphs x = new DieGraphs();
        x.coin(0, 16, 1);
        x.coin(1, 17, 1000000);
        Check.fraction("the least weight", x.mean(0, 0), x.mean(0, 1), "1 / 1");
        Check.fraction("the greatest weight", x.mean(1, 0), x.mean(1, 1), "1000000 / 1");
    }

    /** Coins may be in DOUBT, then they count only where that is said. */
    private static void doubt() {
        DieGraphs x = new DieGraphs();
        x.hoard();
        x.coin(3, 20, 5);
        x.coin(3, 21, 6);
        x.wear(0, 0, 1);
        x.wear(1, 0, 2);
        x.into(0, 0);
        x.doubt(0, true);
        Check.rule(x, "x:7");
        Check.same("counted as a coin", x.count(0), 2);
        Check.same("counted as one in doubt", x.count(1), 1);
        Check.same("has a type", x.type(0), 7);
        Check.same("is in its hoard", x.into(0, 0), false);
        Check.same("links no dies", x.chain(20), 20);
        Check.same("makes no chain", x.chains(), 1);
        Check.same("makes no order", x.order(20, 21), 0);
        Check.fraction("no die of the back", x.dies(1, 0), x.dies(1, 1), "1 / 0");
        Check.fraction("weighs nothing", x.mean(3, 0), x.mean(3, 1), "6 / 1");
        Check.fraction("gives its hoard no die", x.overlap(0, 0, 0), x.overlap(0, 0, 1), "0 / 1");
        Check.same("is not linked", x.linked(1, 0), -1);
        Check.same("has none linked", x.linked(0, 0), -1);
        for (int i = 2; i < 80; i++) {
            x.coin(0, 16, 1);
        }
        Check.noState("counted among the 80", () -> x.coin(0, 16, 1));
    }

    /** A CHAIN: dies that are linked by coins, over any others; its NUMBER is that of its least die. */
    private static void chainOverAnyOthers() {
        DieGraphs x = new DieGraphs();
        for (int front = 15; front > 0; front--) {
            x.coin(front, 16 + front, 1);
        }
        for (int front = 15; front > 0; front--) {
            x.coin(front, 15 + front, 1);
        }
        Check.same("without die 0, over all others", x.chain(31), 1);
        x.coin(0, 16, 1);
        for (int die = 0; die < 32; die++) {
            Check.same("the number of the chain of all dies, by " + die, x.chain(die), 0);
        }
        Check.same("one chain", x.chains(), 1);
        x.doubt(22, true);
        Check.same("up to the missing link", x.chain(23), 0);
        Check.same("behind the missing link", x.chain(8), 8);
        Check.same("far behind it", x.chain(31), 8);
        Check.same("two chains", x.chains(), 2);
    }

    /** A die without coins is its own chain. */
    private static void dieWithoutCoins() {
        DieGraphs x = new DieGraphs();
        for (int die = 0; die < 32; die++) {
            Check.same("no coins at all, die " + die, x.chain(die), die);
        }
        x.coin(0, 16, 1);
        Check.same("the die beside", x.chain(1), 1);
        Check.same("the last die", x.chain(31), 31);
        x.doubt(0, true);
        Check.same("a coin in doubt alone", x.chain(16), 16);
    }

    /** ROWS are told (at most 60). */
    private static void rows() {
        DieGraphs x = new DieGraphs();
        for (int i = 0; i < 59; i++) {
            x.row(i % 15, i % 15 + 1);
        }
        Check.same("row 60", x.row(30, 31), true);
        Check.same("it is in the order", x.order(30, 31), -1);
        Check.noState("row 61", () -> x.row(30, 31) ? 1 : 0);
        Check.same("rows", x.count(2), 60);
    }

    /** A die was used before another one of its side. */
    private static void rowsOfOneSide() {
        for (int a = -1; a <= 32; a++) {
            for (int b = -1; b <= 32; b++) {
                DieGraphs x = new DieGraphs();
                int before = a;
                int after = b;
                String due = a < 0 || a > 31 || b < 0 || b > 31 ? INDEX : a / 16 != b / 16 ? ARGUMENT : ANSWER;
                String order = Check.outcome(() -> x.order(before, after));
                String row = Check.outcome(() -> x.row(before, after) ? 1 : 0);
                Check.same("order(" + a + ", " + b + ")", order.equals("0") ? ANSWER : order, due);
                Check.same("row(" + a + ", " + b + ")", row.equals(a == b ? "0" : "1") ? ANSWER : row, due);
            }
        }
    }

    /** Each coin may have a STAGE 0 .. 9: the less one was used before. */
    private static void stages() {
        for (int first = 0; first <= 9; first++) {
            for (int second = 0; second <= 9; second++) {
                DieGraphs x = new DieGraphs();
                x.coin(0, 20, 1);
                x.coin(0, 21, 1);
                x.coin(5, 22, 1);
                x.coin(6, 22, 1);
                x.wear(0, 0, first);
                x.wear(1, 0, second);
                x.wear(2, 1, first);
                x.wear(3, 1, second);
                String what = "stages " + first + " and " + second;
                Check.same(what + " of a front", x.order(20, 21), Integer.compare(first, second));
                Check.same(what + " of a back", x.order(5, 6), Integer.compare(first, second));
            }
        }
        DieGraphs x = new DieGraphs();
        x.coin(0, 16, 1);
        Check.range("stage", -1, 9, ARGUMENT, stage -> x.wear(0, 0, stage) ? 1 : 0);
    }

    private static void noStage() {
        for (int stage = -1; stage <= 9; stage++) {
            DieGraphs x = new DieGraphs();
            x.coin(0, 20, 1);
            x.coin(0, 21, 1);
            x.coin(5, 22, 1);
            x.coin(6, 22, 1);
            x.wear(0, 0, stage);
            x.wear(2, 1, stage);
            Check.same("stage " + stage + " and one that was never told", x.order(20, 21), 0);
            Check.same("stage " + stage + " of the back and one that was never told", x.order(5, 6), 0);
            x.wear(1, 0, 5);
            x.wear(1, 0, -1);
            x.wear(3, 1, 5);
            x.wear(3, 1, -1);
            Check.same("stage " + stage + " and one that was taken away", x.order(20, 21), 0);
            Check.same("stage " + stage + " of the back and one that was taken away", x.order(5, 6), 0);
        }
    }

    /** .. the first one's other die was used before the second one's other die (if they are not the same). */
    private static void otherDiesThatAreTheSame() {
        DieGraphs x = new DieGraphs();
        for (int coin = 0; coin < 10; coin++) {
            x.coin(7, 23, 1);
            Check.same("stage " + coin + " of the front", x.wear(coin, 0, coin), true);
            Check.same("stage " + coin + " of the back", x.wear(coin, 1, 9 - coin), true);
        }
        Check.same("no order of the front", x.order(7, 7), 0);
        Check.same("no order of the back", x.order(23, 23), 0);
        Check.same("no ring", x.ring(0), -1);
        x.coin(7, 24, 1);
        Check.same("another die between the stages would be a ring", x.wear(10, 0, 5), false);
        Check.same("that ring", Check.ring(x), "23 24");
        Check.same("another die with the least stage as well", x.wear(10, 0, 0), true);
        Check.same("it is earlier then", x.order(24, 23), -1);
    }

    /** Dies are EARLIER than others by all that follows, one behind the other. */
    private static void oneBehindTheOther() {
        DieGraphs x = new DieGraphs();
        for (int die = 15; die > 0; die--) {
            x.row(die - 1, die);
        }
        Check.same("the first and the last over all others", x.order(0, 15), -1);
        Check.same("the last and the first", x.order(15, 0), 1);
        for (int middle = 0; middle < 32; middle++) {
            DieGraphs over = new DieGraphs();
            int before = middle / 16 * 16 + (middle + 1) % 16;
            int after = middle / 16 * 16 + (middle + 2) % 16;
            over.row(before, middle);
            over.row(middle, after);
            Check.same("over " + middle, over.order(before, after), -1);
        }
        DieGraphs y = new DieGraphs();
        for (int front = 0; front < 16; front++) {
            y.coin(front, front < 10 ? 16 : 17, 1);
            y.wear(front, 1, front % 10);
        }
        Check.same("stages of two dies, not linked", y.order(0, 15), 0);
        y.coin(9, 17, 1);
        Check.same("a stage as that of another one", y.wear(16, 1, 0), true);
        Check.same("the last one of the first, the first of the last", y.order(9, 10), 0);
        Check.same("over stages of two dies", y.order(0, 15), -1);
        Check.same("a row from the end to a new begin", y.row(15, 0), false);
        Check.same("the ring over both", Check.ring(y), "0 9 15");
    }

    /** No die is earlier than itself: that would be a RING. */
    private static void noDieIsEarlierThanItself() {
        for (int die = 0; die < 32; die++) {
            DieGraphs x = new DieGraphs();
            Check.same("row of " + die + " and itself", x.row(die, die), false);
            Check.same("order of " + die + " and itself", x.order(die, die), 0);
            Check.same("its ring", Check.ring(x), Integer.toString(die));
            Check.same("no row", x.count(2), 0);
        }
    }

    /** A ring is told as dies, each used before the next one (by a row, or by stages), the last before the first. */
    private static void ringsByRowsAndByStages() {
        DieGraphs x = new DieGraphs();
        x.coin(4, 16, 1);
        x.coin(2, 16, 1);
        x.coin(2, 17, 1);
        x.coin(9, 17, 1);
        x.wear(0, 1, 0);
        x.wear(1, 1, 1);
        x.wear(2, 1, 8);
        x.wear(3, 1, 9);
        Check.same("a row against stages", x.row(9, 4), false);
        Check.same("each before the next, from the lowest", Check.ring(x), "2 9 4");
        x.wear(3, 1, 8);
        Check.same("a row that stages do not stand against yet", x.row(9, 4), true);
        Check.same("a stage against the row", x.wear(3, 1, 9), false);
        Check.same("the same ring", Check.ring(x), "2 9 4");
    }

    /** .. the shortest .. */
    private static void shortestRing() {
        DieGraphs x = new DieGraphs();
        for (int die = 0; die < 15; die++) {
            x.row(die, die + 1);
        }
        for (int from = 14; from >= 1; from--) {
            // The way from 0 to 15 is one step shorter each time.
            Check.same("row(15, 0)", x.row(15, 0), false);
            Check.same("a ring of " + (from + 2), x.ring(from + 1), 15);
            Check.same("behind it", x.ring(from + 2), -1);
            x.row(from - 1, 15);
        }
        Check.same("row(15, 0) at last", x.row(15, 0), false);
        Check.same("the shortest", Check.ring(x), "0 15");
        shortestOfBothSides();
    }

    private static void shortestOfBothSides() {
        DieGraphs front = twoRingsIfSure();
        front.row(2, 1);
        front.row(18, 19);
        front.row(19, 17);
        Check.same("the front's is shorter", front.doubt(0, false), false);
        Check.same("it is told", Check.ring(front), "1 2");
        DieGraphs back = twoRingsIfSure();
        back.row(2, 3);
        back.row(3, 1);
        back.row(18, 17);
        Check.same("the back's is shorter", back.doubt(0, false), false);
        Check.same("it is told", Check.ring(back), "17 18");
        DieGraphs both = twoRingsIfSure();
        both.row(2, 1);
        both.row(18, 17);
        Check.same("both are as short", both.doubt(0, false), false);
        Check.same("the one with the lower dies is told", Check.ring(both), "1 2");
    }

    /** If coin 0 comes out of doubt, die 1 is before 2, and 17 before 18. */
    private static DieGraphs twoRingsIfSure() {
        DieGraphs x = new DieGraphs();
        x.coin(1, 17, 1);
        x.coin(1, 18, 1);
        x.coin(2, 17, 1);
        x.wear(0, 0, 1);
        x.wear(1, 0, 2);
        x.wear(0, 1, 1);
        x.wear(2, 1, 2);
        x.doubt(0, true);
        return x;
    }

    /** .. and of such the one with the lower die where they differ first. */
    private static void lowerRing() {
        DieGraphs first = new DieGraphs();
        first.row(6, 2);
        first.row(2, 5);
        first.row(6, 1);
        first.row(1, 5);
        first.row(5, 6);
        Check.same("they differ at the first place", Check.ring(first), "1 5 6");
        DieGraphs last = new DieGraphs();
        last.row(6, 9);
        last.row(9, 5);
        last.row(6, 8);
        last.row(8, 5);
        last.row(5, 6);
        Check.same("they differ at the last place", Check.ring(last), "5 6 8");
        DieGraphs middle = new DieGraphs();
        middle.row(16, 30);
        middle.row(30, 18);
        middle.row(16, 29);
        middle.row(29, 31);
        middle.row(31, 17);
        middle.row(30, 17);
        middle.row(18, 31);
        middle.row(29, 18);
        Check.same("row(31, 16)", middle.row(31, 16), false);
        Check.same("the shortest, though others go on lower", Check.ring(middle), "16 29 31");
        middle.row(16, 31);
        middle.row(16, 18);
        Check.same("row(18, 16)", middle.row(18, 16), false);
        Check.same("a ring of two", Check.ring(middle), "16 18");
    }

    /** HOARDS are 0 .. 7, sets of coins. */
    private static void hoards() {
        DieGraphs x = new DieGraphs();
        x.coin(0, 16, 1);
        for (int number = 0; number < 8; number++) {
            int next = number;
            Check.noIndex("into a hoard before it is there", () -> x.into(next, 0) ? 1 : 0);
            Check.same("the next hoard", x.hoard(), number);
        }
        Check.range("into's hoard", 0, 7, INDEX, hoard -> x.into(hoard, 0) ? 1 : 0);
        Check.range("overlap's first hoard", 0, 7, INDEX, hoard -> x.overlap(hoard, 3, 0));
        Check.range("overlap's second hoard", 0, 7, INDEX, hoard -> x.overlap(3, hoard, 0));
        Check.same("a set holds a coin once", x.into(7, 0), false);
    }

    /** Two SHARE those dies that coins (not in doubt) of both have. */
    private static void shares() {
        DieGraphs x = new DieGraphs();
        x.hoard();
        x.hoard();
        x.coin(0, 16, 1);
        x.coin(0, 17, 1);
        x.into(0, 0);
        x.into(1, 1);
        Check.fraction("a die, by two coins", x.overlap(0, 1, 0), x.overlap(0, 1, 1), "1 / 3");
        x.into(1, 0);
        Check.fraction("dies, by one coin", x.overlap(0, 1, 0), x.overlap(0, 1, 1), "2 / 3");
        x.doubt(0, true);
        Check.fraction("one has none but in doubt", x.overlap(0, 1, 0), x.overlap(0, 1, 1), "0 / 1");
        x.doubt(1, true);
        Check.fraction("both have none but in doubt", x.overlap(0, 1, 0), x.overlap(0, 1, 1), "0 / 1");
    }

    /** RULES, at most 12. */
    private static void rules() {
        DieGraphs x = new DieGraphs();
        for (int i = 0; i < 12; i++) {
            Check.same("rule " + i, Check.rule(x, "r" + i + ":" + i), i);
        }
        Check.collect(x, ":12");
        Check.noState("rule 12", () -> x.rule());
        Check.same("rules", x.count(4), 12);
        x.coin(0, 27, 1);
        x.coin(0, 28, 1);
        Check.same("the last rule counts", x.type(0), 11);
        Check.same("the refused one does not", x.type(1), -1);
    }

    /** .. texts of at most 40 signs. */
    private static void signs() {
        DieGraphs x = new DieGraphs();
        Check.collect(x, "x,x,x,x,x,x,x,x,x,x,x,x,x,x,x,x,x,x,x:4");
        Check.same("39 signs", x.count(5), 39);
        Check.noState("41 signs", () -> x.unit(0x31, 0x32, 0, 0));
        Check.same("40 signs", x.unit(0, 0x32, 0, 0), 40);
        Check.noState("one more", () -> x.unit(0x33, 0, 0, 0));
        Check.same("a rule of 40 signs", x.rule(), 0);
        x.coin(0, 16, 1);
        x.doubt(0, true);
        Check.same("its type has its last sign", x.type(0), 42);
    }

    /** CONDITIONS with 44 between them (none, or more), 58, a TYPE (a number). */
    private static void conditions() {
        StringBuilder text = new StringBuilder("x");
        Check.same("no condition", Check.rule(new DieGraphs(), ":1"), 0);
        for (int number = 1; number <= 19; number++) {
            Check.same(number + " conditions", Check.rule(new DieGraphs(), text + ":1"), 0);
            text.append(",x");
        }
        Check.same("20 conditions leave no room for a type", Check.rule(new DieGraphs(), text + ":"), -41);
        Check.same("44 ahead of the first", Check.rule(new DieGraphs(), ",x:1"), -1);
        Check.same("44 behind the last", Check.rule(new DieGraphs(), "x,:1"), -3);
        Check.same("nothing between them", Check.rule(new DieGraphs(), "xx:1"), -2);
        Check.same("44 twice", Check.rule(new DieGraphs(), "x,,x:1"), -3);
        Check.same("58 twice", Check.rule(new DieGraphs(), "x::1"), -3);
        Check.same("no 58", Check.rule(new DieGraphs(), "x"), -2);
        Check.same("no type", Check.rule(new DieGraphs(), "x:"), -3);
        Check.same("a condition behind the type", Check.rule(new DieGraphs(), "x:1,x"), -4);
        lastConditionCounts();
    }

    private static void lastConditionCounts() {
        DieGraphs x = new DieGraphs();
        x.coin(0, 16, 5);
        x.doubt(0, true);
        Check.rule(x, "x,x,x,x,x,x,x,x,x,x,x,x,x,x,x,x,x,x,<5:1");
        Check.same("the last of many does not hold", x.type(0), -1);
        Check.rule(x, "x,x,x,x,x,x,x,x,x,x,x,x,x,x,x,x,x,x,<6:2");
        Check.same("the last of many holds", x.type(0), 2);
    }

    /** A condition is 111 (front) or 114 (back) and a number: the coin's die on that side (of the back: less 16). */
    private static void dieConditions() {
        for (int number = 0; number <= 32; number++) {
            for (int die = 0; die < 16; die++) {
                int due = number == die ? 1 : -1;
                Check.same("front " + die + ", o" + number, typeBy("o" + number + ":1", die, 16, 1), due);
                Check.same("back " + die + ", r" + number, typeBy("r" + number + ":1", 0, 16 + die, 1), due);
            }
        }
        Check.same("the greatest number", typeBy("o9999999:1", 15, 31, 1), -1);
        Check.same("the greatest number of the back", typeBy("r9999999:1", 15, 31, 1), -1);
    }

    /** 60 or 62 and a number: it has less, more milligrams. */
    private static void weightConditions() {
        int[] weights = {1, 2, 500, 999999, 1000000};
        int[] numbers = {0, 1, 2, 3, 499, 500, 501, 999998, 999999, 1000000, 1000001, 9999999};
        for (int milligrams : weights) {
            for (int number : numbers) {
                int less = milligrams < number ? 1 : -1;
                int more = milligrams > number ? 1 : -1;
                Check.same(milligrams + " <" + number, typeBy("<" + number + ":1", 0, 16, milligrams), less);
                Check.same(milligrams + " >" + number, typeBy(">" + number + ":1", 0, 16, milligrams), more);
            }
        }
    }

    /** 120: it is in doubt. */
    private static void doubtCondition() {
        DieGraphs x = new DieGraphs();
        x.coin(0, 16, 1);
        Check.rule(x, "x:3");
        Check.same("not in doubt", x.type(0), -1);
        x.doubt(0, true);
        Check.same("in doubt", x.type(0), 3);
        x.doubt(0, false);
        Check.same("in doubt no more", x.type(0), -1);
        Check.same("no number behind it", Check.rule(x, "x0:3"), -2);
    }

    /** Numbers have one to seven digits (0s ahead, too). */
    private static void digits() {
        for (String ahead : new String[] {":", "o", "r", "<", ">"}) {
            String behind = ahead.equals(":") ? "" : ":1";
            Check.same("no digit behind " + ahead, Check.rule(new DieGraphs(), ahead + behind), -2);
            StringBuilder zeros = new StringBuilder();
            StringBuilder nines = new StringBuilder();
            for (int digits = 1; digits <= 8; digits++) {
                zeros.append('0');
                nines.append('9');
                int due = digits <= 7 ? 0 : -9;
                Check.same(ahead + zeros, Check.rule(new DieGraphs(), ahead + zeros + behind), due);
                Check.same(ahead + nines, Check.rule(new DieGraphs(), ahead + nines + behind), due);
            }
        }
        Check.same("the least type", typeBy(":0", 0, 16, 1), 0);
        Check.same("0s alone", typeBy(":0000000", 0, 16, 1), 0);
        Check.same("0s ahead", typeBy(":0000019", 0, 16, 1), 19);
        Check.same("the greatest type", typeBy(":9999999", 0, 16, 1), 9999999);
        Check.same("0s ahead of a front", typeBy("o0000015:1", 15, 16, 1), 1);
        Check.same("0s ahead of a back", typeBy("r0000015:1", 0, 31, 1), 1);
        Check.same("0s ahead of a weight", typeBy("<0000002:1", 0, 16, 1), 1);
        Check.same("0s ahead of another weight", typeBy(">0000000:1", 0, 16, 1), 1);
    }

    /** A coin's type is that of the first rule of which all conditions hold. */
    private static void firstRule() {
        DieGraphs x = new DieGraphs();
        x.coin(0, 16, 1);
        for (int i = 0; i < 11; i++) {
            Check.rule(x, "o0,r1:" + i);
        }
        Check.same("none yet", x.type(0), -1);
        Check.rule(x, "o0,r0:11");
        Check.same("the last of twelve", x.type(0), 11);
        DieGraphs y = new DieGraphs();
        y.coin(0, 16, 1);
        for (int i = 0; i < 12; i++) {
            Check.rule(y, ":" + (20 - i));
        }
        Check.same("the first of twelve", y.type(0), 20);
    }

    private static int typeBy(String text, int front, int back, int milligrams) {
        DieGraphs x = new DieGraphs();
        x.coin(front, back, milligrams);
        Check.same("rule " + text, Check.rule(x, text), 0);
        return x.type(0);
    }

    /** EXCEPTIONS: IndexOutOfBoundsException .. IllegalArgumentException, then IllegalStateException. */
    private static void indexBeforeArgumentBeforeState() {
        DieGraphs full = State.full().made();
        Check.noIndex("coin: front, milligrams, 80", () -> full.coin(-1, 16, 0));
        Check.noIndex("coin: back, milligrams, 80", () -> full.coin(0, 32, 1000001));
        Check.noIndex("coin: back, 80", () -> full.coin(0, 15, 1));
        Check.noArgument("coin: milligrams, 80", () -> full.coin(0, 16, 0));
        Check.noState("coin: 80", () -> full.coin(0, 16, 1));
        Check.noIndex("row: a die, two sides, 60", () -> full.row(-1, 16) ? 1 : 0);
        Check.noIndex("row: the other die, two sides, 60", () -> full.row(15, 32) ? 1 : 0);
        Check.noArgument("row: two sides, 60", () -> full.row(15, 16) ? 1 : 0);
        Check.noState("row: 60", () -> full.row(14, 15) ? 1 : 0);
        Check.noIndex("wear: coin, stage", () -> full.wear(80, 0, 10) ? 1 : 0);
        Check.noIndex("wear: side, stage", () -> full.wear(79, 2, -2) ? 1 : 0);
        Check.noArgument("wear: stage", () -> full.wear(79, 1, -2) ? 1 : 0);
        Check.noIndex("order: a die, two sides", () -> full.order(-1, 31));
        Check.noIndex("order: the other die, two sides", () -> full.order(0, 32));
        Check.noArgument("order: two sides", () -> full.order(0, 31));
        int[] due = {80, 27, 60, 8, 12, 40};
        for (int what = 0; what <= 5; what++) {
            Check.same("count(" + what + ") after them", full.count(what), due[what]);
        }
    }
}
