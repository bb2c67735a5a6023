/** The boundary cases of promises 16 unit, 17 rule, 18 type, 19 count: a method for each, its words above it. */
public final class RuleEdgesTest {
    private static final String INDEX = "IndexOutOfBoundsException";

    public static void main(String[] args) {
        lowestBitsFirst();
        zeroIsNone();
        everySign();
        moreThan40Signs();
        everySignMoreThan40();
        refusedSigns();
        ruleOfACollectedText();
        emptyText();
        everyPlaceOfARule();
        everyEndOfARule();
        endOf40Signs();
        rulesThatAreRefused();
        twelveRules();
        typeWithoutRules();
        typeOfNoCoin();
        countOfEach();
        countAtItsMost();
        countOfNone();
        Check.done();
    }

    /** Signs come behind the collected text: of a, then of b, and so on, the lowest eight bits first. */
    private static void lowestBitsFirst() {
        DieGraphs x = new DieGraphs();
        // "<00," and ">00," and ",xx," and "1234"
        Check.same("sixteen at once", x.unit(0x2c30303c, 0x2c30303e, 0x2c78782c, 0x34333231), 16);
        Check.same("44 twice, at place 8", x.rule(), -9);
        Check.same("four, one of each", x.unit(0x78, 0x3a, 0x31, 0x32), 4);
        Check.same("behind them", x.unit(0x3433, 0, 0, 0x3635), 8);
        Check.same("x:123456", x.rule(), 0);
        x.coin(0, 16, 1);
        x.doubt(0, true);
        Check.same("its type", x.type(0), 123456);
    }

    /** 0 is none: how many there are. */
    private static void zeroIsNone() {
        DieGraphs x = new DieGraphs();
        Check.same("none", x.unit(0, 0, 0, 0), 0);
        Check.same("58 in the highest bits", x.unit(0x3a000000, 0, 0, 0), 1);
        Check.same("one between none", x.unit(0, 0x00310000, 0, 0), 2);
        Check.same("one in the last", x.unit(0, 0, 0, 0x3200), 3);
        Check.same("none behind them", x.unit(0, 0, 0, 0), 3);
        Check.same(":12", x.rule(), 0);
        x.coin(0, 16, 1);
        Check.same("its type", x.type(0), 12);
    }

    private static void everySign() {
        for (int sign = 1; sign < 256; sign++) {
            DieGraphs x = new DieGraphs();
            for (int shift = 0; shift < 32; shift += 8) {
                Check.same("sign " + sign, x.unit(0, sign << shift, 0, 0), shift / 8 + 1);
            }
            boolean begins = ":or<>x".indexOf(sign) >= 0;
            Check.same("a rule that begins with " + sign, x.rule(), begins ? -2 : -1);
        }
        DieGraphs y = new DieGraphs();
        Check.same("sixteen of 255", y.unit(-1, -1, -1, -1), 16);
        Check.same("128 in the highest bits", y.unit(Integer.MIN_VALUE, 0, 0, 0), 17);
        Check.same("four in the greatest", y.unit(Integer.MAX_VALUE, 0, 0, 0), 21);
    }

    /** IllegalStateException: there would be more than 40. */
    private static void moreThan40Signs() {
        for (int ahead = 24; ahead <= 40; ahead++) {
            for (int more = 0; more <= 16; more++) {
                DieGraphs x = new DieGraphs();
                Check.collect(x, "x".repeat(ahead));
                int[] words = new int[4];
                for (int i = 0; i < more; i++) {
                    words[i % 4] |= 0x78 << i / 4 * 8;
                }
                boolean room = ahead + more <= 40;
                String got = Check.outcome(() -> x.unit(words[0], words[1], words[2], words[3]));
                String due = room ? Integer.toString(ahead + more) : "IllegalStateException";
                Check.same(more + " behind " + ahead, got, due);
                Check.same("signs", x.count(5), room ? ahead + more : ahead);
            }
        }
    }

    private static void everySignMoreThan40() {
        for (int sign = 1; sign < 256; sign++) {
            DieGraphs x = new DieGraphs();
            Check.collect(x, "x".repeat(40));
            for (int shift = 0; shift < 32; shift += 8) {
                int word = sign << shift;
                Check.noState("sign " + sign + " in a", () -> x.unit(word, 0, 0, 0));
                Check.noState("sign " + sign + " in b", () -> x.unit(0, word, 0, 0));
                Check.noState("sign " + sign + " in c", () -> x.unit(0, 0, word, 0));
                Check.noState("sign " + sign + " in d", () -> x.unit(0, 0, 0, word));
            }
            Check.same("0 is none", x.unit(0, 0, 0, 0), 40);
        }
    }

    private static void refusedSigns() {
        DieGraphs x = new DieGraphs();
        Check.collect(x, "o0000001,o0000001,o0000001,o0000001,o1");
        Check.noState("three where two have room", () -> x.unit(0x323a, 0x33, 0, 0));
        Check.same("38 are there still", x.count(5), 38);
        Check.same("two", x.unit(0, 0x3a, 0, 0x37), 40);
        Check.same("the rule has none of the refused", x.rule(), 0);
        x.coin(1, 16, 1);
        Check.same("its type", x.type(0), 7);
        Check.same("room for all again", x.unit(-1, -1, -1, -1), 16);
    }

    /** The collected text becomes a rule, and is empty: its number. */
    private static void ruleOfACollectedText() {
        DieGraphs x = new DieGraphs();
        Check.same("the shortest rule", Check.rule(x, ":0"), 0);
        Check.same("an empty text", x.count(5), 0);
        Check.same("the next one", Check.rule(x, "x:0"), 1);
        Check.same("one that is none", Check.rule(x, "x0"), -2);
        Check.same("it has no number", Check.rule(x, "x:0"), 2);
        Check.same("rules", x.count(4), 3);
    }

    private static void emptyText() {
        DieGraphs x = new DieGraphs();
        Check.same("no text", x.rule(), -1);
        x.unit(0, 0, 0, 0);
        Check.same("no signs", x.rule(), -1);
        Check.rule(x, ":1");
        Check.same("no text behind a rule", x.rule(), -1);
        Check.rule(x, "?");
        Check.same("no text behind one that is none", x.rule(), -1);
        Check.same("rules", x.count(4), 1);
    }

    /** NONE - the place of the sign at which it is no beginning of a rule. */
    private static void everyPlaceOfARule() {
        String good = "o0000015,r0,<0000500,>0,x,x,o15:1234567";
        for (int place = 0; place < good.length(); place++) {
            for (char sign : new char[] {1, ';', '/', 'y', 255}) {
                String text = good.substring(0, place) + sign + good.substring(place + 1);
                Check.same(text, Check.rule(new DieGraphs(), text), -1 - place);
            }
        }
        Check.same("an eighth digit of the type", Check.rule(new DieGraphs(), good + "8"), -1 - good.length());
        Check.same("a sign behind the type", Check.rule(new DieGraphs(), good + ":"), -1 - good.length());
        Check.same("the first of several", Check.rule(new DieGraphs(), "o1,,:?"), -4);
    }

    /** (its length at its end). */
    private static void everyEndOfARule() {
        String good = "o0000015,r0,<0000500,>0,x,x,o15:1234567";
        int colon = good.indexOf(':');
        for (int length = 0; length <= good.length(); length++) {
            int due = length > colon + 1 ? 0 : -1 - length;
            DieGraphs x = new DieGraphs();
            Check.same("the first " + length, Check.rule(x, good.substring(0, length)), due);
            Check.same("the text is empty", x.count(5), 0);
            Check.same("rules", x.count(4), due == 0 ? 1 : 0);
        }
    }

    private static void endOf40Signs() {
        DieGraphs x = new DieGraphs();
        Check.same("ends with 44", Check.rule(x, "x,".repeat(20)), -41);
        Check.same("ends with 58", Check.rule(x, "x,".repeat(19) + "x:"), -41);
        Check.same("ends with a condition", Check.rule(x, "x,".repeat(18) + "x,o1"), -41);
        Check.same("ends with 111", Check.rule(x, "o1,".repeat(13) + "o"), -41);
        Check.same("wrong at the last place", Check.rule(x, "x,".repeat(19) + "x;"), -40);
        Check.same("39 signs", Check.rule(x, "x,".repeat(19) + "x"), -40);
        Check.same("rules", x.count(4), 0);
    }

    /** .. and it is empty, too. */
    private static void rulesThatAreRefused() {
        DieGraphs x = new DieGraphs();
        x.coin(0, 16, 1);
        for (int i = 0; i < 20; i++) {
            Check.same("no rule", Check.rule(x, "o0,r0:8,"), -8);
            Check.same("an empty text", x.count(5), 0);
            Check.same("no rules", x.count(4), 0);
        }
        Check.same("no type", x.type(0), -1);
        Check.same("the first rule", Check.rule(x, "o0,r0:8"), 0);
        Check.same("the type", x.type(0), 8);
    }

    /** IllegalStateException: there are twelve. */
    private static void twelveRules() {
        DieGraphs x = new DieGraphs();
        for (int number = 0; number < 12; number++) {
            Check.same("one that is none", Check.rule(x, "o"), -2);
            Check.same("a rule", Check.rule(x, "o" + number + ":" + number), number);
        }
        Check.noState("an empty text", () -> x.rule());
        Check.same("a text can be collected still", x.unit(0x78, 0, 0, 0), 1);
        Check.noState("one that is none", () -> x.rule());
        Check.same("it stays", x.unit(0x313a, 0, 0, 0), 3);
        Check.noState("one that would be one", () -> x.rule());
        Check.same("it stays, too", x.count(5), 3);
        Check.same("rules", x.count(4), 12);
    }

    /** A coin's type; NONE. */
    private static void typeWithoutRules() {
        DieGraphs x = new DieGraphs();
        x.coin(0, 16, 1);
        Check.same("no rules", x.type(0), -1);
        Check.collect(x, ":1");
        Check.same("a text that is no rule yet", x.type(0), -1);
        x.rule();
        Check.same("a rule", x.type(0), 1);
        DieGraphs y = new DieGraphs();
        y.coin(0, 16, 1);
        Check.rule(y, "o1:1");
        Check.same("a rule that does not hold", y.type(0), -1);
        Check.rule(y, "o0:0");
        Check.same("type 0 is one", y.type(0), 0);
        y.coin(1, 16, 1);
        Check.same("a coin behind the rules", y.type(1), 1);
    }

    /** IndexOutOfBoundsException. */
    private static void typeOfNoCoin() {
        DieGraphs x = new DieGraphs();
        Check.rule(x, ":1");
        Check.noIndex("no coins", () -> x.type(0));
        x.coin(0, 16, 1);
        x.coin(0, 16, 1);
        x.coin(0, 16, 1);
        Check.range("coin", 0, 2, INDEX, coin -> x.type(coin));
    }

    /** 0 coins, 1 coins in doubt, 2 rows, 3 hoards, 4 rules, 5 signs of the collected text. */
    private static void countOfEach() {
        DieGraphs x = new DieGraphs();
        counts(x, 0, 0, 0, 0, 0, 0);
        x.coin(0, 16, 1);
        counts(x, 1, 0, 0, 0, 0, 0);
        x.doubt(0, true);
        counts(x, 1, 1, 0, 0, 0, 0);
        x.row(0, 1);
        counts(x, 1, 1, 1, 0, 0, 0);
        x.hoard();
        counts(x, 1, 1, 1, 1, 0, 0);
        x.unit(0x313a, 0, 0, 0);
        counts(x, 1, 1, 1, 1, 0, 2);
        x.rule();
        counts(x, 1, 1, 1, 1, 1, 0);
        x.doubt(0, false);
        counts(x, 1, 0, 1, 1, 1, 0);
    }

    private static void countAtItsMost() {
        DieGraphs x = State.full().made();
        counts(x, 80, 27, 60, 8, 12, 40);
        for (int coin = 0; coin < 80; coin++) {
            x.doubt(coin, true);
        }
        counts(x, 80, 80, 60, 8, 12, 40);
    }

    private static void counts(DieGraphs x, int... due) {
        for (int what = 0; what < due.length; what++) {
            Check.same("count(" + what + ")", x.count(what), due[what]);
        }
    }

    /** IndexOutOfBoundsException: none of these. */
    private static void countOfNone() {
        Check.range("what of the empty object", 0, 5, INDEX, what -> new DieGraphs().count(what));
        DieGraphs full = State.full().made();
        Check.range("what of the full object", 0, 5, INDEX, what -> full.count(what));
    }
}
