/** Coins by the dies that struck them: chains, order, numbers of dies, hoards, weights, types. */
public final class DieGraphs {
    public static final int NONE = -1;

    private static final int DIES = 32;
    private static final int FIRST_BACK_DIE = 16;
    private static final int FRONT = 0;
    private static final int BACK = 1;
    private static final int MOST_COINS = 80;
    private static final int MOST_MILLIGRAMS = 1000000;
    private static final int STAGES = 10;
    private static final int MOST_ROWS = 60;
    private static final int MOST_HOARDS = 8;
    private static final int MOST_RULES = 12;
    private static final int MOST_SIGNS = 40;

    private final Coins coins;
    private final Chains links;
    private final Precedence precedence;
    private final Rules rules;
    private int hoards;

    public DieGraphs() {
        Coins known = new Coins();
        coins = known;
        links = new Chains(known);
        precedence = new Precedence(known);
        rules = new Rules(known);
        hoards = 0;
    }

    public int coin(int front, int back, int milligrams)
            throws IndexOutOfBoundsException, IllegalArgumentException, IllegalStateException {
        if (front < 0 || front >= FIRST_BACK_DIE) {
            throw new IndexOutOfBoundsException("no such front die");
        }
        if (back < FIRST_BACK_DIE || back >= DIES) {
            throw new IndexOutOfBoundsException("no such back die");
        }
        if (milligrams < 1 || milligrams > MOST_MILLIGRAMS) {
            throw new IllegalArgumentException("milligrams are 1 to 1000000");
        }
        if (coins.size() >= MOST_COINS) {
            throw new IllegalStateException("there are 80 coins");
        }
        return coins.add(front, back, milligrams);
    }

    public boolean doubt(int coin, boolean on) throws IndexOutOfBoundsException {
        requireCoin(coin);
        if (coins.isDoubted(coin) == on) {
            return false;
        }
        coins.setDoubt(coin, on);
        // Doubt only takes orders away, so it can make no ring.
        if (on || !precedence.tellsRing()) {
            return true;
        }
        coins.setDoubt(coin, true);
        return false;
    }

    public boolean wear(int coin, int side, int stage) throws IndexOutOfBoundsException, IllegalArgumentException {
        requireCoin(coin);
        requireSide(side);
        if (stage < NONE || stage >= STAGES) {
            throw new IllegalArgumentException("stages are 0 to 9, or NONE");
        }
        int old = coins.stageOf(coin, side);
        coins.setStage(coin, side, stage);
        if (!precedence.tellsRing()) {
            return true;
        }
        coins.setStage(coin, side, old);
        return false;
    }

    public boolean row(int before, int after)
            throws IndexOutOfBoundsException, IllegalArgumentException, IllegalStateException {
        requireDie(before);
        requireDie(after);
        requireOneSide(before, after);
        if (precedence.rows() >= MOST_ROWS) {
            throw new IllegalStateException("there are 60 rows");
        }
        precedence.addRow(before, after);
        if (!precedence.tellsRing()) {
            return true;
        }
        precedence.dropLastRow();
        return false;
    }

    public int ring(int k) throws IndexOutOfBoundsException {
        requirePlace(k);
        return precedence.ringAt(k);
    }

    public int order(int a, int b) throws IndexOutOfBoundsException, IllegalArgumentException {
        requireDie(a);
        requireDie(b);
        requireOneSide(a, b);
        precedence.build();
        if (precedence.isEarlier(a, b)) {
            return -1;
        }
        return precedence.isEarlier(b, a) ? 1 : 0;
    }

    public int chain(int die) throws IndexOutOfBoundsException {
        requireDie(die);
        links.build();
        return links.leastDieWith(die);
    }

    public int chains() {
        links.build();
        int found = 0;
        for (int die = 0; die < DIES; die++) {
            if (links.leastDieWith(die) == die && links.hasCoins(die)) {
                found++;
            }
        }
        return found;
    }

    public int dies(int side, int part) throws IndexOutOfBoundsException {
        requireSide(side);
        requirePart(part);
        int struck = 0;
        int different = 0;
        int single = 0;
        for (int die = side * FIRST_BACK_DIE; die < (side + 1) * FIRST_BACK_DIE; die++) {
            int own = coins.sureCoinsWith(die, side);
            struck += own;
            different += own > 0 ? 1 : 0;
            single += own == 1 ? 1 : 0;
        }
        return struck == 0 ? lessened(0, 1, part) : lessened(different * struck, struck - single, part);
    }

    public int mean(int die, int part) throws IndexOutOfBoundsException {
        requireDie(die);
        requirePart(part);
        links.build();
        int least = links.leastDieWith(die);
        int sum = 0;
        int number = 0;
        for (int coin = 0; coin < coins.size(); coin++) {
            if (!coins.isDoubted(coin) && links.leastDieWith(coins.dieOf(coin, FRONT)) == least) {
                sum += coins.milligramsOf(coin);
                number++;
            }
        }
        return number == 0 ? lessened(0, 1, part) : lessened(sum, number, part);
    }

    public int hoard() throws IllegalStateException {
        if (hoards >= MOST_HOARDS) {
            throw new IllegalStateException("there are eight hoards");
        }
        hoards++;
        return hoards - 1;
    }

    public boolean into(int hoard, int coin) throws IndexOutOfBoundsException {
        requireHoard(hoard);
        requireCoin(coin);
        if (coins.isInHoard(coin, hoard)) {
            return false;
        }
        coins.putIntoHoard(coin, hoard);
        return true;
    }

    public int overlap(int a, int b, int part) throws IndexOutOfBoundsException {
        requireHoard(a);
        requireHoard(b);
        requirePart(part);
        int diesOfA = coins.sureDiesOfHoard(a);
        int diesOfB = coins.sureDiesOfHoard(b);
        int shared = Integer.bitCount(diesOfA & diesOfB);
        int all = Integer.bitCount(diesOfA | diesOfB);
        return all == 0 ? lessened(0, 1, part) : lessened(shared, all, part);
    }

    public int linked(int coin, int k) throws IndexOutOfBoundsException {
        requireCoin(coin);
        requirePlace(k);
        int passed = 0;
        for (int other = 0; other < coins.size(); other++) {
            if (coins.areLinked(coin, other)) {
                if (passed == k) {
                    return other;
                }
                passed++;
            }
        }
        return NONE;
    }

    public int unit(int a, int b, int c, int d) throws IllegalStateException {
        int more = Rules.signsIn(a) + Rules.signsIn(b) + Rules.signsIn(c) + Rules.signsIn(d);
        if (rules.textLength() + more > MOST_SIGNS) {
            throw new IllegalStateException("there would be more than 40 signs");
        }
        rules.append(a);
        rules.append(b);
        rules.append(c);
        rules.append(d);
        return rules.textLength();
    }

    public int rule() throws IllegalStateException {
        if (rules.size() >= MOST_RULES) {
            throw new IllegalStateException("there are twelve rules");
        }
        return rules.readText();
    }

    public int type(int coin) throws IndexOutOfBoundsException {
        requireCoin(coin);
        return rules.typeOf(coin);
    }

    public int count(int what) throws IndexOutOfBoundsException {
        switch (what) {
            case 0:
                return coins.size();
            case 1:
                return coins.doubted();
            case 2:
                return precedence.rows();
            case 3:
                return hoards;
            case 4:
                return rules.size();
            case 5:
                return rules.textLength();
            default:
                throw new IndexOutOfBoundsException("there is no such count");
        }
    }

    private void requireCoin(int coin) {
        if (coin < 0 || coin >= coins.size()) {
            throw new IndexOutOfBoundsException("no such coin");
        }
    }

    private void requireHoard(int hoard) {
        if (hoard < 0 || hoard >= hoards) {
            throw new IndexOutOfBoundsException("no such hoard");
        }
    }

    private static void requireDie(int die) {
        if (die < 0 || die >= DIES) {
            throw new IndexOutOfBoundsException("no such die");
        }
    }

    private static void requireSide(int side) {
        if (side != FRONT && side != BACK) {
            throw new IndexOutOfBoundsException("no such side");
        }
    }

    private static void requirePart(int part) {
        if (part != 0 && part != 1) {
            throw new IndexOutOfBoundsException("no such part");
        }
    }

    private static void requirePlace(int k) {
        if (k < 0) {
            throw new IndexOutOfBoundsException("no such place");
        }
    }

    private static void requireOneSide(int a, int b) {
        if ((a < FIRST_BACK_DIE) != (b < FIRST_BACK_DIE)) {
            throw new IllegalArgumentException("the dies are of two sides");
        }
    }

    /** One part of the fraction above / below, of which at most one is 0, in its least terms. */
    private static int lessened(int above, int below, int part) {
        int divisor = commonDivisor(above, below);
        int asked = part == 0 ? above : below;
        return divisor == 0 ? asked : asked / divisor;
    }

    private static int commonDivisor(int a, int b) {
        int larger = a;
        int smaller = b;
        // The remainders halve every second step, so 64 steps are enough for any two ints.
        for (int step = 0; step < 64 && smaller != 0; step++) {
            int rest = larger % smaller;
            larger = smaller;
            smaller = rest;
        }
        return larger;
    }

    private static boolean contains(int set, int die) {
        return (set >>> die & 1) != 0;
    }

    /** The coins; those that are not in doubt are called sure. Sets of dies or of hoards are bits of an int. */
    private static final class Coins {
        private final int[] fronts = new int[MOST_COINS];
        private final int[] backs = new int[MOST_COINS];
        private final int[] weights = new int[MOST_COINS];
        private final int[] frontStages = new int[MOST_COINS];
        private final int[] backStages = new int[MOST_COINS];
        private final int[] hoardSets = new int[MOST_COINS];
        private final boolean[] doubts = new boolean[MOST_COINS];
        private int size = 0;

        Coins() {
        }

        int size() {
            return size;
        }

        int add(int front, int back, int milligrams) {
            int coin = size;
            fronts[coin] = front;
            backs[coin] = back;
            weights[coin] = milligrams;
            frontStages[coin] = NONE;
            backStages[coin] = NONE;
            size++;
            return coin;
        }

        int dieOf(int coin, int side) {
            return side == FRONT ? fronts[coin] : backs[coin];
        }

        int milligramsOf(int coin) {
            return weights[coin];
        }

        int stageOf(int coin, int side) {
            return side == FRONT ? frontStages[coin] : backStages[coin];
        }

        void setStage(int coin, int side, int stage) {
            if (side == FRONT) {
                frontStages[coin] = stage;
            } else {
                backStages[coin] = stage;
            }
        }

        boolean isDoubted(int coin) {
            return doubts[coin];
        }

        void setDoubt(int coin, boolean on) {
            doubts[coin] = on;
        }

        int doubted() {
            int found = 0;
            for (int coin = 0; coin < size; coin++) {
                if (doubts[coin]) {
                    found++;
                }
            }
            return found;
        }

        boolean isInHoard(int coin, int hoard) {
            return (hoardSets[coin] >>> hoard & 1) != 0;
        }

        void putIntoHoard(int coin, int hoard) {
            hoardSets[coin] |= 1 << hoard;
        }

        int sureDiesOfHoard(int hoard) {
            int set = 0;
            for (int coin = 0; coin < size; coin++) {
                if (!doubts[coin] && isInHoard(coin, hoard)) {
                    set |= 1 << fronts[coin] | 1 << backs[coin];
                }
            }
            return set;
        }

        int sureCoinsWith(int die, int side) {
            int found = 0;
            for (int coin = 0; coin < size; coin++) {
                if (!doubts[coin] && dieOf(coin, side) == die) {
                    found++;
                }
            }
            return found;
        }

        boolean areLinked(int coin, int other) {
            return coin != other && !doubts[coin] && !doubts[other]
                    && (fronts[coin] == fronts[other] || backs[coin] == backs[other]);
        }
    }

    /** The chains of dies, as they were when build() was called last. */
    private static final class Chains {
        private final Coins coins;
        private final int[] least = new int[DIES];
        private int struck = 0;

        Chains(Coins coins) {
            this.coins = coins;
        }

        void build() {
            struck = 0;
            for (int die = 0; die < DIES; die++) {
                least[die] = die;
            }
            for (int coin = 0; coin < coins.size(); coin++) {
                if (!coins.isDoubted(coin)) {
                    int front = coins.dieOf(coin, FRONT);
                    int back = coins.dieOf(coin, BACK);
                    struck |= 1 << front | 1 << back;
                    join(least[front], least[back]);
                }
            }
        }

        int leastDieWith(int die) {
            return least[die];
        }

        boolean hasCoins(int die) {
            return contains(struck, die);
        }

        private void join(int a, int b) {
            if (a == b) {
                return;
            }
            int kept = Math.min(a, b);
            int given = Math.max(a, b);
            for (int die = 0; die < DIES; die++) {
                if (least[die] == given) {
                    least[die] = kept;
                }
            }
        }
    }

    /** The rows that were told, and which dies were used before which by them and by stages. */
    private static final class Precedence {
        private static final int NO_RING = DIES + 1;

        private final Coins coins;
        private final int[] rowBefore = new int[MOST_ROWS];
        private final int[] rowAfter = new int[MOST_ROWS];
        private int rows = 0;
        /** Of a die and a stage: the other dies of the sure coins that have this die at this stage. */
        private final int[] partners = new int[DIES * STAGES];
        /** Of a die: those that a row or stages put directly behind it. */
        private final int[] next = new int[DIES];
        /** Of a die: all that are later. */
        private final int[] later = new int[DIES];
        /** By a number of steps: the dies from which so many steps lead to the die that is looked at. */
        private final int[] towards = new int[DIES + 1];
        private final int[] told = new int[DIES];
        private int toldLength = 0;

        Precedence(Coins coins) {
            this.coins = coins;
        }

        int rows() {
            return rows;
        }

        void addRow(int before, int after) {
            rowBefore[rows] = before;
            rowAfter[rows] = after;
            rows++;
        }

        void dropLastRow() {
            if (rows > 0) {
                rows--;
            }
        }

        int ringAt(int place) {
            return place < toldLength ? told[place] : NONE;
        }

        boolean isEarlier(int a, int b) {
            return contains(later[a], b);
        }

        void build() {
            addRowsToNext();
            gatherPartners();
            addStagesToNext(FRONT);
            addStagesToNext(BACK);
            closeLater();
        }

        /** Builds the order; if there is a ring in it, tells it and answers yes. */
        boolean tellsRing() {
            build();
            int start = NONE;
            int length = NO_RING;
            for (int die = 0; die < DIES; die++) {
                int found = shortestRingWith(die);
                if (found < length) {
                    start = die;
                    length = found;
                }
            }
            if (start == NONE) {
                return false;
            }
            tellRingFrom(start);
            return true;
        }

        private void addRowsToNext() {
            for (int die = 0; die < DIES; die++) {
                next[die] = 0;
            }
            for (int i = 0; i < rows; i++) {
                next[rowBefore[i]] |= 1 << rowAfter[i];
            }
        }

        private void gatherPartners() {
            for (int i = 0; i < partners.length; i++) {
                partners[i] = 0;
            }
            for (int coin = 0; coin < coins.size(); coin++) {
                if (!coins.isDoubted(coin)) {
                    gatherPartner(coin, FRONT);
                    gatherPartner(coin, BACK);
                }
            }
        }

        private void gatherPartner(int coin, int side) {
            int stage = coins.stageOf(coin, side);
            if (stage != NONE) {
                partners[coins.dieOf(coin, side) * STAGES + stage] |= 1 << coins.dieOf(coin, 1 - side);
            }
        }

        private void addStagesToNext(int side) {
            for (int coin = 0; coin < coins.size(); coin++) {
                int stage = coins.stageOf(coin, side);
                if (!coins.isDoubted(coin) && stage != NONE) {
                    int other = coins.dieOf(coin, 1 - side);
                    next[other] |= partnersBehind(coins.dieOf(coin, side), stage) & ~(1 << other);
                }
            }
        }

        private int partnersBehind(int die, int stage) {
            int set = 0;
            for (int behind = stage + 1; behind < STAGES; behind++) {
                set |= partners[die * STAGES + behind];
            }
            return set;
        }

        private void closeLater() {
            for (int die = 0; die < DIES; die++) {
                later[die] = next[die];
            }
            for (int middle = 0; middle < DIES; middle++) {
                for (int die = 0; die < DIES; die++) {
                    if (contains(later[die], middle)) {
                        later[die] |= later[middle];
                    }
                }
            }
        }

        /** The length of the shortest ring with a die, or NO_RING; fills towards[] up to that length. */
        private int shortestRingWith(int die) {
            if (!contains(later[die], die)) {
                return NO_RING;
            }
            towards[0] = 1 << die;
            for (int steps = 1; steps <= DIES; steps++) {
                towards[steps] = diesDirectlyBefore(towards[steps - 1]);
                if (contains(towards[steps], die)) {
                    return steps;
                }
            }
            return NO_RING;
        }

        private int diesDirectlyBefore(int set) {
            int found = 0;
            for (int die = 0; die < DIES; die++) {
                if ((next[die] & set) != 0) {
                    found |= 1 << die;
                }
            }
            return found;
        }

        private void tellRingFrom(int start) {
            int length = shortestRingWith(start);
            int die = start;
            toldLength = 0;
            // The lowest die that can still come home in time, place by place, makes the lowest ring.
            for (int left = length - 1; left >= 0 && left < DIES && die != NONE; left--) {
                told[toldLength] = die;
                toldLength++;
                die = lowestOf(next[die] & towards[left]);
            }
        }

        private static int lowestOf(int set) {
            for (int die = 0; die < DIES; die++) {
                if (contains(set, die)) {
                    return die;
                }
            }
            return NONE;
        }
    }

    /** The rules, and the collected text that becomes the next one. */
    private static final class Rules {
        private static final int COMMA = 44;
        private static final int COLON = 58;
        private static final int FRONT_DIE = 111;
        private static final int BACK_DIE = 114;
        private static final int LESS = 60;
        private static final int MORE = 62;
        private static final int IN_DOUBT = 120;
        private static final int DIGIT_0 = 48;
        private static final int DIGIT_9 = 57;
        private static final int MOST_DIGITS = 7;
        /** A condition and the sign behind it are two signs at least. */
        private static final int MOST_CONDITIONS = MOST_SIGNS / 2;

        private final Coins coins;
        private final int[] text = new int[MOST_SIGNS];
        private int textLength = 0;
        private int place = 0;
        private final int[] kinds = new int[MOST_RULES * MOST_CONDITIONS];
        private final int[] numbers = new int[MOST_RULES * MOST_CONDITIONS];
        private final int[] conditions = new int[MOST_RULES];
        private final int[] types = new int[MOST_RULES];
        private int size = 0;

        Rules(Coins coins) {
            this.coins = coins;
        }

        int size() {
            return size;
        }

        int textLength() {
            return textLength;
        }

        static int signsIn(int word) {
            int found = 0;
            for (int shift = 0; shift < 32; shift += 8) {
                if ((word >>> shift & 255) != 0) {
                    found++;
                }
            }
            return found;
        }

        void append(int word) {
            for (int shift = 0; shift < 32; shift += 8) {
                int sign = word >>> shift & 255;
                if (sign != 0 && textLength < MOST_SIGNS) {
                    text[textLength] = sign;
                    textLength++;
                }
            }
        }

        /** Makes the text a rule and answers its number, or NONE - the place of the wrong sign. */
        int readText() {
            place = 0;
            boolean whole = readConditions() && readType() && place == textLength;
            textLength = 0;
            if (!whole) {
                return NONE - place;
            }
            size++;
            return size - 1;
        }

        int typeOf(int coin) {
            for (int i = 0; i < size; i++) {
                if (allHold(i, coin)) {
                    return types[i];
                }
            }
            return NONE;
        }

        private int sign() {
            return place < textLength ? text[place] : NONE;
        }

        private boolean take(int wanted) {
            if (sign() != wanted) {
                return false;
            }
            place++;
            return true;
        }

        private boolean readConditions() {
            conditions[size] = 0;
            if (sign() == COLON) {
                return true;
            }
            for (int i = 0; i < MOST_CONDITIONS; i++) {
                if (!readCondition()) {
                    return false;
                }
                if (!take(COMMA)) {
                    return true;
                }
            }
            return false;
        }

        private boolean readCondition() {
            int kind = sign();
            if (!isKind(kind)) {
                return false;
            }
            place++;
            int number = kind == IN_DOUBT ? 0 : readNumber();
            if (number == NONE) {
                return false;
            }
            int slot = size * MOST_CONDITIONS + conditions[size];
            kinds[slot] = kind;
            numbers[slot] = number;
            conditions[size]++;
            return true;
        }

        private boolean readType() {
            if (!take(COLON)) {
                return false;
            }
            types[size] = readNumber();
            return types[size] != NONE;
        }

        /** An eighth digit is left standing, where no sign that may come then is found. */
        private int readNumber() {
            int number = 0;
            int digits = 0;
            while (digits < MOST_DIGITS && isDigit(sign())) {
                number = number * 10 + sign() - DIGIT_0;
                digits++;
                place++;
            }
            return digits == 0 ? NONE : number;
        }

        private static boolean isDigit(int sign) {
            return sign >= DIGIT_0 && sign <= DIGIT_9;
        }

        private static boolean isKind(int sign) {
            return sign == FRONT_DIE || sign == BACK_DIE || sign == LESS || sign == MORE || sign == IN_DOUBT;
        }

        private boolean allHold(int i, int coin) {
            for (int slot = i * MOST_CONDITIONS; slot < i * MOST_CONDITIONS + conditions[i]; slot++) {
                if (!holds(kinds[slot], numbers[slot], coin)) {
                    return false;
                }
            }
            return true;
        }

        private boolean holds(int kind, int number, int coin) {
            switch (kind) {
                case FRONT_DIE:
                    return coins.dieOf(coin, FRONT) == number;
                case BACK_DIE:
                    return coins.dieOf(coin, BACK) - FIRST_BACK_DIE == number;
                case LESS:
                    return coins.milligramsOf(coin) < number;
                case MORE:
                    return coins.milligramsOf(coin) > number;
                default:
                    return coins.isDoubted(coin);
            }
        }
    }
}
