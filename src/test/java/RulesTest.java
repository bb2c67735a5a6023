/** Promises 16 unit, 17 rule, 18 type. */
public final class RulesTest {
    private static final String FORTY = "x,x,x,x,x,x,x,x,x,x,x,x,x,x,x,x,x,x,x:42";

    public static void main(String[] args) {
        units();
        mostSigns();
        goodTexts();
        wrongTexts();
        everyWrongSign();
        mostRules();
        types();
        typesAtTheirEdges();
        typeOfTheFirstRule();
        wrongTypes();
        Check.done();
    }

    private static void units() {
        DieGraphs x = new DieGraphs();
        Check.same("no signs", x.unit(0, 0, 0, 0), 0);
        Check.same("the lowest eight bits first", x.unit(0x3a78, 0, 0, 0x31), 3);
        Check.same("x:1", x.rule(), 0);
        Check.same("0 between signs is none", x.unit(0x3a000000, 0, 0x00320031, 0), 3);
        Check.same("count(5)", x.count(5), 3);
        Check.same("more behind", x.unit(0x33, 0, 0, 0), 4);
        Check.same(":123", x.rule(), 1);
        x.coin(0, 16, 1);
        Check.same("its type", x.type(0), 123);
        Check.same("highest bits", x.unit(-1, Integer.MIN_VALUE, 0x7f000000, 0xff), 7);
        Check.same("a sign of 255", x.rule(), -1);
    }

    private static void mostSigns() {
        DieGraphs x = new DieGraphs();
        int word = 0x2c782c78;
        Check.same("sixteen", x.unit(word, word, word, word), 16);
        Check.same("thirty-two", x.unit(word, word, word, word), 32);
        Check.noState("forty-eight", () -> x.unit(word, word, word, word));
        Check.noState("forty-one", () -> x.unit(word, word, 0x78, 0));
        Check.same("nothing changed", x.count(5), 32);
        Check.same("thirty-six", x.unit(0, word, 0, 0), 36);
        Check.same("forty", x.unit(0x78, 0x3a, 0x32003400, 0), 40);
        Check.noState("one more", () -> x.unit(0, 0, 0, 1));
        Check.same("none more", x.unit(0, 0, 0, 0), 40);
        Check.same("a rule of forty signs", x.rule(), 0);
        Check.same("count(5)", x.count(5), 0);
        x.coin(0, 16, 1);
        x.doubt(0, true);
        Check.same("its type", x.type(0), 42);
    }

    private static void goodTexts() {
        String[] texts = {":0", ":0000000", ":9999999", "o15:1", "r0015:1", "o9999999:1", "<0:1", ">1000000:1", "x:1",
            "x,x:1", "o1,r2,<3,>4,x:5", FORTY};
        DieGraphs x = new DieGraphs();
        for (int i = 0; i < texts.length; i++) {
            Check.same(texts[i], Check.rule(x, texts[i]), i);
            Check.same("count(4)", x.count(4), i + 1);
            Check.same("count(5)", x.count(5), 0);
        }
    }

    private static void wrongTexts() {
        DieGraphs x = new DieGraphs();
        wrong(x, "", 0);
        wrong(x, "1", 0);
        wrong(x, ",", 0);
        wrong(x, " :1", 0);
        wrong(x, ":", 1);
        wrong(x, ":x", 1);
        wrong(x, "::1", 1);
        wrong(x, ":1:", 2);
        wrong(x, ":1,x", 2);
        wrong(x, ":12345678", 8);
        wrong(x, ":00000000", 8);
        wrong(x, "o", 1);
        wrong(x, "o:1", 1);
        wrong(x, "o,x:1", 1);
        wrong(x, "o-1:1", 1);
        wrong(x, "r/:1", 1);
        wrong(x, "<;:1", 1);
        wrong(x, ">12x:1", 3);
        wrong(x, "r12", 3);
        wrong(x, "r12345678:1", 8);
        wrong(x, "x", 1);
        wrong(x, "x1:1", 1);
        wrong(x, "x,", 2);
        wrong(x, "x,:1", 2);
        wrong(x, "x,,x:1", 2);
        wrong(x, "xx:1", 1);
        wrong(x, "x:", 2);
        wrong(x, "O1:1", 0);
        wrong(x, "X:1", 0);
        wrong(x, "o1,y:1", 3);
        wrong(x, "x,x,x,x,x,x,x,x,x,x,x,x,x,x,x,x,x,x,x,x,", 40);
        wrong(x, "x,x,x,x,x,x,x,x,x,x,x,x,x,x,x,x,x,x,x,x:", 40);
        Check.same("then a good one", Check.rule(x, "o1,x:3"), 0);
    }

    private static void wrong(DieGraphs x, String text, int place) {
        Check.same("rule " + text, Check.rule(x, text), -1 - place);
        Check.same("count(4) after " + text, x.count(4), 0);
        Check.same("count(5) after " + text, x.count(5), 0);
    }

    /** Of every sign at each place of a rule, only those that the grammar lets stand there go on. */
    private static void everyWrongSign() {
        String good = "o1,x:7";
        String[] may = {"or<>x:", "0123456789", "0123456789,:", "or<>x", ",:", "0123456789"};
        for (int place = 0; place < good.length(); place++) {
            for (char sign = 1; sign < 256; sign++) {
                boolean goesOn = may[place].indexOf(sign) >= 0;
                // Only with the sign of the last place the text is a whole rule.
                int due = !goesOn ? -1 - place : place == good.length() - 1 ? 0 : -2 - place;
                int got = Check.rule(new DieGraphs(), good.substring(0, place) + sign);
                Check.same("sign " + (int) sign + " at " + place, got, due);
            }
        }
    }

    private static void mostRules() {
        DieGraphs x = new DieGraphs();
        for (int i = 0; i < 12; i++) {
            Check.same("rule " + i, Check.rule(x, "o" + i + ":" + i), i);
        }
        Check.noState("rule 12, empty", () -> x.rule());
        Check.collect(x, "?");
        Check.noState("rule 12, which is none", () -> x.rule());
        Check.collect(x, ":1");
        Check.noState("rule 12", () -> x.rule());
        Check.same("the text stays", x.count(5), 3);
        Check.same("count(4)", x.count(4), 12);
        x.coin(11, 16, 1);
        x.coin(12, 16, 1);
        Check.same("the last rule's type", x.type(0), 11);
        Check.same("no rule's type", x.type(1), -1);
    }

    private static void types() {
        Check.same("no rules", typeBy("", 0, 16, 1, false), -1);
        Check.same("no conditions", typeBy(":0", 0, 16, 1, false), 0);
        Check.same("a type with 0s ahead", typeBy(":0000123", 0, 16, 1, false), 123);
        Check.same("the greatest type", typeBy(":9999999", 0, 16, 1, false), 9999999);
        Check.same("front", typeBy("o15:1", 15, 16, 1, false), 1);
        Check.same("front with 0s ahead", typeBy("o0000005:1", 5, 16, 1, false), 1);
        Check.same("another front", typeBy("o14:1", 15, 16, 1, false), -1);
        Check.same("no such front", typeBy("o16:1", 0, 16, 1, false), -1);
        Check.same("back 0", typeBy("r0:1", 5, 16, 1, false), 1);
        Check.same("back 15", typeBy("r15:1", 5, 31, 1, false), 1);
        Check.same("the back is less 16", typeBy("r31:1", 5, 31, 1, false), -1);
        Check.same("another back", typeBy("r5:1", 5, 31, 1, false), -1);
        Check.same("doubt", typeBy("x:1", 0, 16, 1, true), 1);
        Check.same("no doubt", typeBy("x:1", 0, 16, 1, false), -1);
        Check.same("a coin in doubt has other types, too", typeBy("o0:1", 0, 16, 1, true), 1);
        Check.same("all hold", typeBy("o1,r2,<11,>9,x:5", 1, 18, 10, true), 5);
        Check.same("the first does not", typeBy("o1,r2,<11,>9,x:5", 2, 18, 10, true), -1);
        Check.same("the last does not", typeBy("o1,r2,<11,>9,x:5", 1, 18, 10, false), -1);
        Check.same("two that cannot both hold", typeBy("o1,o2:5", 1, 18, 10, false), -1);
        Check.same("the same one twice", typeBy("o1,o1:5", 1, 18, 10, false), 5);
    }

    private static void typesAtTheirEdges() {
        Check.same("9 < 10", typeBy("<10:1", 0, 16, 9, false), 1);
        Check.same("10 < 10", typeBy("<10:1", 0, 16, 10, false), -1);
        Check.same("11 > 10", typeBy(">10:1", 0, 16, 11, false), 1);
        Check.same("10 > 10", typeBy(">10:1", 0, 16, 10, false), -1);
        Check.same("1000000 < 1000001", typeBy("<1000001:1", 0, 16, 1000000, false), 1);
        Check.same("1000000 > 999999", typeBy(">0999999:1", 0, 16, 1000000, false), 1);
        Check.same("1 > 0", typeBy(">0:1", 0, 16, 1, false), 1);
    }

    private static int typeBy(String text, int front, int back, int milligrams, boolean doubted) {
        DieGraphs x = new DieGraphs();
        x.coin(front, back, milligrams);
        x.doubt(0, doubted);
        if (!text.isEmpty()) {
            Check.same("rule " + text, Check.rule(x, text), 0);
        }
        return x.type(0);
    }

    private static void typeOfTheFirstRule() {
        DieGraphs x = new DieGraphs();
        x.coin(1, 16, 100);
        Check.rule(x, "o2:1");
        Check.rule(x, ">99,o1:2");
        Check.same("a wrong rule leaves no type", Check.rule(x, "o1,:9"), -4);
        Check.rule(x, "o1:3");
        Check.rule(x, ":4");
        Check.same("the first of which all hold", x.type(0), 2);
        x.coin(1, 17, 99);
        Check.same("the next one", x.type(1), 3);
        x.coin(3, 17, 99);
        Check.same("the last one", x.type(2), 4);
    }

    private static void wrongTypes() {
        DieGraphs x = new DieGraphs();
        x.coin(0, 16, 1);
        Check.rule(x, ":4");
        for (int coin : new int[] {-1, 1, Integer.MIN_VALUE, Integer.MAX_VALUE}) {
            Check.noIndex("type(" + coin + ")", () -> x.type(coin));
        }
    }
}
