import java.util.ArrayList;
import java.util.HashMap;
import java.util.HashSet;
import java.util.List;
import java.util.Map;
import java.util.Set;
import java.util.TreeMap;
import java.util.TreeSet;

/** The document once more, word by word and slowly, to compare the program with. */
public final class Model {
    private static final String CONDITION = "(?:[or<>][0-9]{1,7}|x)";
    private static final String WHOLE = "(?:" + CONDITION + "(?:," + CONDITION + ")*)?:[0-9]{1,7}";
    private static final String BEGINNING = "(?:" + CONDITION + ",)*(?:[or<>][0-9]{0,7}|x)?"
            + "|(?:" + CONDITION + "(?:," + CONDITION + ")*)?:[0-9]{0,7}";

    private static final class Coin {
        int[] dies;
        int milligrams;
        boolean doubted;
        int[] stages = {-1, -1};
    }

    private final List<Coin> coins = new ArrayList<>();
    private final List<int[]> rows = new ArrayList<>();
    private final List<Set<Integer>> hoards = new ArrayList<>();
    private final List<String> rules = new ArrayList<>();
    private String text = "";
    private List<Integer> told = new ArrayList<>();

    private static void index(boolean good) {
        if (!good) {
            throw new IndexOutOfBoundsException();
        }
    }

    private static void argument(boolean good) {
        if (!good) {
            throw new IllegalArgumentException();
        }
    }

    private static void state(boolean good) {
        if (!good) {
            throw new IllegalStateException();
        }
    }

    private static boolean within(int x, int least, int most) {
        return least <= x && x <= most;
    }

    private boolean isCoin(int coin) {
        return within(coin, 0, coins.size() - 1);
    }

    private boolean isHoard(int hoard) {
        return within(hoard, 0, hoards.size() - 1);
    }

    private List<Coin> sure() {
        List<Coin> found = new ArrayList<>();
        for (Coin coin : coins) {
            if (!coin.doubted) {
                found.add(coin);
            }
        }
        return found;
    }

    public int coin(int front, int back, int milligrams) {
        index(within(front, 0, 15) && within(back, 16, 31));
        argument(within(milligrams, 1, 1000000));
        state(coins.size() < 80);
        Coin coin = new Coin();
        coin.dies = new int[] {front, back};
        coin.milligrams = milligrams;
        coins.add(coin);
        return coins.size() - 1;
    }

    public boolean doubt(int coin, boolean on) {
        index(isCoin(coin));
        Coin meant = coins.get(coin);
        if (meant.doubted == on) {
            return false;
        }
        meant.doubted = on;
        if (refused()) {
            meant.doubted = true;
            return false;
        }
        return true;
    }

    public boolean wear(int coin, int side, int stage) {
        index(isCoin(coin) && within(side, 0, 1));
        argument(within(stage, -1, 9));
        Coin meant = coins.get(coin);
        int old = meant.stages[side];
        meant.stages[side] = stage;
        if (refused()) {
            meant.stages[side] = old;
            return false;
        }
        return true;
    }

    public boolean row(int before, int after) {
        index(within(before, 0, 31) && within(after, 0, 31));
        argument(before / 16 == after / 16);
        state(rows.size() < 60);
        rows.add(new int[] {before, after});
        if (refused()) {
            rows.remove(rows.size() - 1);
            return false;
        }
        return true;
    }

    public int ring(int k) {
        index(k >= 0);
        return k < told.size() ? told.get(k) : -1;
    }

    public int order(int a, int b) {
        index(within(a, 0, 31) && within(b, 0, 31));
        argument(a / 16 == b / 16);
        Map<Integer, Set<Integer>> next = next();
        return reaches(next, a, b, new HashSet<>()) ? -1 : reaches(next, b, a, new HashSet<>()) ? 1 : 0;
    }

    private static boolean reaches(Map<Integer, Set<Integer>> next, int a, int b, Set<Integer> seen) {
        for (int die : next.getOrDefault(a, Set.of())) {
            if (die == b || seen.add(die) && reaches(next, die, b, seen)) {
                return true;
            }
        }
        return false;
    }

    private Map<Integer, Set<Integer>> next() {
        Map<Integer, Set<Integer>> next = new TreeMap<>();
        for (int[] row : rows) {
            next.computeIfAbsent(row[0], die -> new TreeSet<>()).add(row[1]);
        }
        for (int side = 0; side < 2; side++) {
            for (Coin first : sure()) {
                for (Coin second : sure()) {
                    int other = 1 - side;
                    if (first.dies[side] == second.dies[side] && first.stages[side] >= 0
                            && first.stages[side] < second.stages[side] && first.dies[other] != second.dies[other]) {
                        next.computeIfAbsent(first.dies[other], die -> new TreeSet<>()).add(second.dies[other]);
                    }
                }
            }
        }
        return next;
    }

    private boolean refused() {
        Map<Integer, Set<Integer>> next = next();
        for (int length = 1; length <= 16; length++) {
            for (int start = 0; start < 32; start++) {
                List<Integer> path = new ArrayList<>(List.of(start));
                if (closes(next, path, length)) {
                    told = path;
                    return true;
                }
            }
        }
        return false;
    }

    /** Tries all paths of a length, the lower dies first, until one ends just before its first die. */
    private static boolean closes(Map<Integer, Set<Integer>> next, List<Integer> path, int length) {
        Set<Integer> following = next.getOrDefault(path.get(path.size() - 1), Set.of());
        if (path.size() == length) {
            return following.contains(path.get(0));
        }
        for (int die : following) {
            if (!path.contains(die)) {
                path.add(die);
                if (closes(next, path, length)) {
                    return true;
                }
                path.remove(path.size() - 1);
            }
        }
        return false;
    }

    private Set<Integer> chainOf(int die) {
        Set<Integer> found = new TreeSet<>(Set.of(die));
        int size = 0;
        while (size < found.size()) {
            size = found.size();
            for (Coin coin : sure()) {
                if (found.contains(coin.dies[0]) || found.contains(coin.dies[1])) {
                    found.add(coin.dies[0]);
                    found.add(coin.dies[1]);
                }
            }
        }
        return found;
    }

    public int chain(int die) {
        index(within(die, 0, 31));
        return chainOf(die).iterator().next();
    }

    public int chains() {
        Set<Integer> found = new HashSet<>();
        for (Coin coin : sure()) {
            found.add(chain(coin.dies[0]));
        }
        return found.size();
    }

    private static int lessened(int above, int below, int part) {
        int divisor = Math.max(1, Math.max(above, below));
        while (above % divisor != 0 || below % divisor != 0) {
            divisor--;
        }
        return (part == 0 ? above : below) / divisor;
    }

    public int dies(int side, int part) {
        index(within(side, 0, 1) && within(part, 0, 1));
        Map<Integer, Integer> coinsOf = new HashMap<>();
        for (Coin coin : sure()) {
            coinsOf.merge(coin.dies[side], 1, Integer::sum);
        }
        int n = sure().size();
        int s = 0;
        for (int number : coinsOf.values()) {
            s += number == 1 ? 1 : 0;
        }
        if (n == 0) {
            return part == 0 ? 0 : 1;
        }
        if (n == s) {
            return part == 0 ? 1 : 0;
        }
        return lessened(coinsOf.size() * n, n - s, part);
    }

    public int mean(int die, int part) {
        index(within(die, 0, 31) && within(part, 0, 1));
        Set<Integer> chain = chainOf(die);
        int sum = 0;
        int number = 0;
        for (Coin coin : sure()) {
            if (chain.contains(coin.dies[1])) {
                sum += coin.milligrams;
                number++;
            }
        }
        if (number == 0) {
            return part == 0 ? 0 : 1;
        }
        int divisor = number;
        while (sum % divisor != 0 || number % divisor != 0) {
            divisor--;
        }
        return (part == 0 ? sum : number) / divisor;
    }

    public int hoard() {
        state(hoards.size() < 8);
        hoards.add(new TreeSet<>());
        return hoards.size() - 1;
    }

    public boolean into(int hoard, int coin) {
        index(isHoard(hoard) && isCoin(coin));
        return hoards.get(hoard).add(coin);
    }

    private Set<Integer> diesOf(int hoard) {
        Set<Integer> found = new TreeSet<>();
        for (int number : hoards.get(hoard)) {
            Coin coin = coins.get(number);
            if (!coin.doubted) {
                found.add(coin.dies[0]);
                found.add(coin.dies[1]);
            }
        }
        return found;
    }

    public int overlap(int a, int b, int part) {
        index(isHoard(a) && isHoard(b) && within(part, 0, 1));
        Set<Integer> shared = diesOf(a);
        shared.retainAll(diesOf(b));
        Set<Integer> all = diesOf(a);
        all.addAll(diesOf(b));
        return lessened(shared.size(), Math.max(1, all.size()), part);
    }

    public int linked(int coin, int k) {
        index(isCoin(coin) && k >= 0);
        List<Integer> found = new ArrayList<>();
        Coin one = coins.get(coin);
        for (int i = 0; i < coins.size() && !one.doubted; i++) {
            Coin other = coins.get(i);
            boolean shares = other.dies[0] == one.dies[0] || other.dies[1] == one.dies[1];
            if (other != one && !other.doubted && shares) {
                found.add(i);
            }
        }
        return k < found.size() ? found.get(k) : -1;
    }

    public int unit(int a, int b, int c, int d) {
        StringBuilder more = new StringBuilder();
        for (int word : new int[] {a, b, c, d}) {
            for (int i = 0; i < 4; i++) {
                char sign = (char) (word >> 8 * i & 0xff);
                if (sign != 0) {
                    more.append(sign);
                }
            }
        }
        state(text.length() + more.length() <= 40);
        text += more;
        return text.length();
    }

    public int rule() {
        state(rules.size() < 12);
        String whole = text;
        text = "";
        if (whole.matches(WHOLE)) {
            rules.add(whole);
            return rules.size() - 1;
        }
        int place = 0;
        while (place < whole.length() && whole.substring(0, place + 1).matches(BEGINNING)) {
            place++;
        }
        return -1 - place;
    }

    public int type(int coin) {
        index(isCoin(coin));
        for (String rule : rules) {
            String[] parts = rule.split(":");
            boolean all = true;
            for (String condition : parts[0].split(",")) {
                all = all && (condition.isEmpty() || holds(condition, coins.get(coin)));
            }
            if (all) {
                return Integer.parseInt(parts[1]);
            }
        }
        return -1;
    }

    private static boolean holds(String condition, Coin coin) {
        if (condition.equals("x")) {
            return coin.doubted;
        }
        int number = Integer.parseInt(condition.substring(1));
        switch (condition.charAt(0)) {
            case 'o':
                return coin.dies[0] == number;
            case 'r':
                return coin.dies[1] - 16 == number;
            case '<':
                return coin.milligrams < number;
            default:
                return coin.milligrams > number;
        }
    }

    public int count(int what) {
        index(within(what, 0, 5));
        int doubted = coins.size() - sure().size();
        return new int[] {coins.size(), doubted, rows.size(), hoards.size(), rules.size(), text.length()}[what];
    }
}
