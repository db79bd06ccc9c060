import java.util.Arrays;
import java.util.NoSuchElementException;

/**
 * A bench for the rosters of a ward: who works which shift on which day; the best roster, a bound
 * below it that is raised by prices, and the repair of a plan that changes as little as it can.
 *
 * <p>The searches walk forward over the places and hold one KEY for each state in which the nurses
 * can be there. A key is a long: on top the weight so far, below it two bits for the shift of each
 * place, the first place highest. So the lesser of two keys is the one of less weight and, of equal
 * weights, the one that is before the other; and the key of a roster is the sum of its steps' keys.
 */
public final class WardRoster {
    public static final int NONE = -1;

    private static final int NURSES = 3;
    private static final int MOST_DAYS = 6;
    private static final int SHIFTS = 4;
    private static final int OFF = 0;
    private static final int FIRST_WORK = 1;
    private static final int MOST_WORKED = 4;
    private static final int ALL_PAIRS = 65535;
    private static final int MOST_COST = 99;
    private static final int MOST_ROUNDS = 12;
    private static final int MOST_PRICE = 999;
    private static final int FIRST_GROWTH = 16;
    private static final int NOT_LEGAL = 100;

    /** A state is off, or a work shift and the 1 to 4 days worked one behind the other up to it. */
    private static final int STATES = 13;
    private static final int TRIPLES = STATES * STATES * STATES;

    private static final int SHIFT_BITS = 2;
    private static final int SHIFT_MASK = 3;
    private static final int PLACES_BITS = SHIFT_BITS * NURSES * MOST_DAYS;
    /** Above every key: the weight of a roster, changes and all, stays below 2 to the 17. */
    private static final long NO_KEY = 1L << 62;

    /** The weight of a change: more than any penalty, which is at most 18 * (99 + 99). */
    private static final int CHANGE = 4096;

    private final Ward ward = new Ward();
    private final LineWalk walk = new LineWalk();
    private final RosterSearch search = new RosterSearch();
    private final Pricing pricing = new Pricing();
    private final int[] noPrices = new int[MOST_DAYS * SHIFTS];
    /** The key of the roster that was taken up: its shifts alone count, its weight is of then. */
    private long plan;
    private long bestKey;
    private boolean bestIsKnown;

    public WardRoster() {
        startWard(MOST_DAYS);
    }

    public void open(int days) throws IllegalArgumentException {
        requireValue(days, 1, MOST_DAYS);
        startWard(days);
    }

    public void contract(int nurse, int pairs, int longest)
            throws IndexOutOfBoundsException, IllegalArgumentException {
        requireNurse(nurse);
        requireValue(pairs, 0, ALL_PAIRS);
        requireValue(longest, 1, MOST_WORKED);
        ward.nurses[nurse].forbidden = pairs;
        ward.nurses[nurse].longest = longest;
        forgetAnswers();
    }

    public void before(int nurse, int shift, int worked)
            throws IndexOutOfBoundsException, IllegalArgumentException {
        requireNurse(nurse);
        requireValue(shift, OFF, SHIFTS - 1);
        if (shift == OFF) {
            requireValue(worked, 0, 0);
        } else {
            requireValue(worked, 1, MOST_WORKED);
        }
        ward.nurses[nurse].start = stateOf(shift, worked);
        forgetAnswers();
    }

    public int need(int day, int shift, int many)
            throws IndexOutOfBoundsException, IllegalArgumentException {
        requireDay(day);
        requireShift(shift, FIRST_WORK);
        requireValue(many, 0, NURSES);
        int was = ward.needed[cell(day, shift)];
        ward.needed[cell(day, shift)] = many;
        forgetAnswers();
        return was;
    }

    public int cost(int nurse, int day, int shift, int cost)
            throws IndexOutOfBoundsException, IllegalArgumentException {
        requireNurse(nurse);
        requireDay(day);
        requireShift(shift, OFF);
        requireValue(cost, 0, MOST_COST);
        int[] costs = ward.nurses[nurse].shiftCosts;
        int was = costs[cell(day, shift)];
        costs[cell(day, shift)] = cost;
        forgetAnswers();
        return was;
    }

    public int pair(int nurse, int a, int b, int cost)
            throws IndexOutOfBoundsException, IllegalArgumentException {
        requireNurse(nurse);
        requireShift(a, OFF);
        requireShift(b, OFF);
        requireValue(cost, 0, MOST_COST);
        int[] costs = ward.nurses[nurse].pairCosts;
        int was = costs[cell(a, b)];
        costs[cell(a, b)] = cost;
        forgetAnswers();
        return was;
    }

    public int fix(int nurse, int day, int shift)
            throws IndexOutOfBoundsException, IllegalArgumentException {
        requireNurse(nurse);
        requireDay(day);
        requireValue(shift, NONE, SHIFTS - 1);
        int[] fixed = ward.nurses[nurse].fixedShifts;
        int was = fixed[day];
        fixed[day] = shift;
        forgetAnswers();
        return was;
    }

    public int days() {
        return ward.dayCount;
    }

    public int lines(int nurse) throws IndexOutOfBoundsException {
        requireNurse(nurse);
        walkUnpriced(nurse);
        return walk.countLines();
    }

    public int line(int nurse) throws IndexOutOfBoundsException {
        requireNurse(nurse);
        long key = walkUnpriced(nurse);
        return key == NO_KEY ? NONE : weightOf(key);
    }

    public int least() {
        findBest();
        return bestKey == NO_KEY ? NONE : weightOf(bestKey);
    }

    public int best(int nurse, int day) throws IndexOutOfBoundsException, NoSuchElementException {
        requireNurse(nurse);
        requireDay(day);
        findBest();
        requireRoster(bestKey);
        return shiftAt(bestKey, placeBit(nurse, day));
    }

    public int raise(int rounds) throws IllegalArgumentException, IllegalStateException {
        requireValue(rounds, 1, MOST_ROUNDS);
        requireLines();
        for (int round = 0; round < rounds; round++) {
            pricing.playRound(ward, walk);
        }
        return pricing.greatestLimit;
    }

    public int bound() {
        return pricing.greatestLimit;
    }

    public int price(int day, int shift) throws IndexOutOfBoundsException {
        requireDay(day);
        requireShift(shift, FIRST_WORK);
        return pricing.prices[cell(day, shift)];
    }

    public int adopt() throws NoSuchElementException {
        findBest();
        requireRoster(bestKey);
        plan = bestKey;
        return weightOf(bestKey);
    }

    public int repair() throws IllegalStateException, NoSuchElementException {
        requirePlan();
        long key = search.findRoster(ward, plan);
        requireRoster(key);
        plan = key;
        return weightOf(key) / CHANGE;
    }

    public int planned(int nurse, int day) throws IndexOutOfBoundsException {
        requireNurse(nurse);
        requireDay(day);
        return plan == NO_KEY ? NONE : shiftAt(plan, placeBit(nurse, day));
    }

    public int check() {
        if (plan == NO_KEY) {
            return NONE;
        }
        int faults = 0;
        for (int nurse = 0; nurse < NURSES; nurse++) {
            if (!ward.nurses[nurse].allowsLine(plan)) {
                faults += NOT_LEGAL;
            }
        }
        for (int day = 0; day < ward.dayCount; day++) {
            faults += ward.countShort(plan, day);
        }
        return faults;
    }

    private void startWard(int dayCount) {
        ward.clear(dayCount);
        plan = NO_KEY;
        forgetAnswers();
    }

    /** Whatever changes the ward ends the prices and may make another roster the best one. */
    private void forgetAnswers() {
        pricing.clear();
        bestIsKnown = false;
    }

    private void findBest() {
        if (!bestIsKnown) {
            bestKey = search.findRoster(ward, NO_KEY);
            bestIsKnown = true;
        }
    }

    private long walkUnpriced(int nurse) {
        return walk.walkLines(ward.nurses[nurse], noPrices);
    }

    private static void requireNurse(int nurse) {
        if (nurse < 0 || nurse >= NURSES) {
            throw new IndexOutOfBoundsException("there is no such nurse");
        }
    }

    private void requireDay(int day) {
        if (day < 0 || day >= ward.dayCount) {
            throw new IndexOutOfBoundsException("there is no such day");
        }
    }

    private static void requireShift(int shift, int first) {
        if (shift < first || shift >= SHIFTS) {
            throw new IndexOutOfBoundsException("there is no such shift");
        }
    }

    private static void requireValue(int value, int lowest, int highest) {
        if (value < lowest || value > highest) {
            throw new IllegalArgumentException("a value is outside its range");
        }
    }

    private void requireLines() {
        for (int nurse = 0; nurse < NURSES; nurse++) {
            if (walkUnpriced(nurse) == NO_KEY) {
                throw new IllegalStateException("some nurse has no legal line");
            }
        }
    }

    private void requirePlan() {
        if (plan == NO_KEY) {
            throw new IllegalStateException("there is no plan");
        }
    }

    private static void requireRoster(long key) {
        if (key == NO_KEY) {
            throw new NoSuchElementException("there is no roster");
        }
    }

    /** Where a shift stands in an array that has four shifts for each day, shift or state. */
    private static int cell(int row, int shift) {
        return SHIFTS * row + shift;
    }

    private static int stateOf(int shift, int worked) {
        return shift == OFF ? OFF : (SHIFTS - 1) * (worked - 1) + shift;
    }

    private static int shiftOf(int state) {
        return state == OFF ? OFF : (state - 1) % (SHIFTS - 1) + 1;
    }

    private static int workedOf(int state) {
        return state == OFF ? 0 : (state - 1) / (SHIFTS - 1) + 1;
    }

    /** The lower one of the two bits that a key has for a place. */
    private static int placeBit(int nurse, int day) {
        return PLACES_BITS - SHIFT_BITS * (NURSES * day + nurse + 1);
    }

    private static long stepKey(int bit, int shift, int weight) {
        return ((long) weight << PLACES_BITS) + ((long) shift << bit);
    }

    private static int shiftAt(long key, int bit) {
        return (int) (key >> bit) & SHIFT_MASK;
    }

    /** Prices can make a weight negative, so it is got back with its sign and rounded down. */
    private static int weightOf(long key) {
        return (int) (key >> PLACES_BITS);
    }

    private static long leastOf(long[] keys) {
        long least = NO_KEY;
        for (int i = 0; i < keys.length; i++) {
            least = Math.min(least, keys[i]);
        }
        return least;
    }

    /** A nurse's contract, costs, fixed shifts and what comes before day 0. */
    private static final class Nurse {
        private final int number;
        private final int[] shiftCosts = new int[MOST_DAYS * SHIFTS];
        private final int[] pairCosts = new int[SHIFTS * SHIFTS];
        private final int[] fixedShifts = new int[MOST_DAYS];
        private int forbidden;
        private int longest;
        private int start;
        private int dayCount;

        Nurse(int number) {
            this.number = number;
        }

        void clear(int newCount) {
            dayCount = newCount;
            Arrays.fill(shiftCosts, 0);
            Arrays.fill(pairCosts, 0);
            Arrays.fill(fixedShifts, NONE);
            forbidden = 0;
            longest = MOST_WORKED;
            start = OFF;
        }

        /** The state that a shift on a day leads to; NONE when it is not legal. */
        int stateAfter(int day, int state, int shift) {
            if (fixedShifts[day] != NONE && fixedShifts[day] != shift) {
                return NONE;
            }
            if ((forbidden >> cell(shiftOf(state), shift) & 1) != 0) {
                return NONE;
            }
            if (shift == OFF) {
                return OFF;
            }
            int worked = workedOf(state) + 1;
            if (worked > longest) {
                return NONE;
            }
            // Days worked that can't become too many by the end need not be told apart.
            int daysLeft = dayCount - 1 - day;
            return stateOf(shift, worked + daysLeft <= longest ? 1 : worked);
        }

        int penaltyOf(int day, int state, int shift) {
            return shiftCosts[cell(day, shift)] + pairCosts[cell(shiftOf(state), shift)];
        }

        boolean allowsLine(long roster) {
            int state = start;
            for (int day = 0; day < dayCount && state != NONE; day++) {
                state = stateAfter(day, state, shiftAt(roster, placeBit(number, day)));
            }
            return state != NONE;
        }
    }

    /** All that is given: the days, the nurses, and how many each work shift of a day needs. */
    private static final class Ward {
        private final Nurse[] nurses = {new Nurse(0), new Nurse(1), new Nurse(2)};
        private final int[] needed = new int[MOST_DAYS * SHIFTS];
        private int dayCount;

        void clear(int newCount) {
            dayCount = newCount;
            Arrays.fill(needed, 0);
            for (int nurse = 0; nurse < NURSES; nurse++) {
                nurses[nurse].clear(newCount);
            }
        }

        /** How many work shifts of a day have fewer nurses than they need. */
        int countShort(long roster, int day) {
            int count = 0;
            for (int shift = FIRST_WORK; shift < SHIFTS; shift++) {
                if (missing(roster, day, shift) > 0) {
                    count++;
                }
            }
            return count;
        }

        /** The nurses needed less those that have the shift: below 0 when there are too many. */
        int missing(long roster, int day, int shift) {
            int left = needed[cell(day, shift)];
            for (int nurse = 0; nurse < NURSES; nurse++) {
                if (shiftAt(roster, placeBit(nurse, day)) == shift) {
                    left--;
                }
            }
            return left;
        }
    }

    /** Walks all legal lines of a nurse at once, day by day, by the states that they lead to. */
    private static final class LineWalk {
        private long[] keys = new long[STATES];
        private long[] nextKeys = new long[STATES];
        private int[] ways = new int[STATES];
        private int[] nextWays = new int[STATES];

        /** The least key of a nurse's legal lines, less the prices; NO_KEY without a line. */
        long walkLines(Nurse nurse, int[] prices) {
            Arrays.fill(keys, NO_KEY);
            Arrays.fill(ways, 0);
            keys[nurse.start] = 0;
            ways[nurse.start] = 1;
            for (int day = 0; day < nurse.dayCount; day++) {
                Arrays.fill(nextKeys, NO_KEY);
                Arrays.fill(nextWays, 0);
                for (int state = 0; state < STATES; state++) {
                    if (keys[state] != NO_KEY) {
                        leaveState(nurse, day, state, prices);
                    }
                }
                swapRows();
            }
            return leastOf(keys);
        }

        private void leaveState(Nurse nurse, int day, int state, int[] prices) {
            int bit = placeBit(nurse.number, day);
            for (int shift = OFF; shift < SHIFTS; shift++) {
                int next = nurse.stateAfter(day, state, shift);
                if (next != NONE) {
                    int weight = nurse.penaltyOf(day, state, shift) - prices[cell(day, shift)];
                    long key = keys[state] + stepKey(bit, shift, weight);
                    nextKeys[next] = Math.min(nextKeys[next], key);
                    nextWays[next] += ways[state];
                }
            }
        }

        private void swapRows() {
            long[] oldKeys = keys;
            keys = nextKeys;
            nextKeys = oldKeys;
            int[] oldWays = ways;
            ways = nextWays;
            nextWays = oldWays;
        }

        /** How many legal lines the last walk found. */
        int countLines() {
            int count = 0;
            for (int state = 0; state < STATES; state++) {
                count += ways[state];
            }
            return count;
        }
    }

    /** Walks all rosters at once, place by place, by the states that the three nurses are in. */
    private static final class RosterSearch {
        private final int[] statesAfter = new int[STATES * SHIFTS];
        private final long[] steps = new long[STATES * SHIFTS];
        private long[] keys = new long[TRIPLES];
        private long[] nextKeys = new long[TRIPLES];

        /**
         * The least key of all rosters; NO_KEY without a roster. With a plan, each place that is
         * different from it weighs a CHANGE more; NO_KEY for the plan is no plan.
         */
        long findRoster(Ward ward, long plan) {
            Arrays.fill(keys, NO_KEY);
            keys[startTriple(ward)] = 0;
            for (int day = 0; day < ward.dayCount; day++) {
                for (int nurse = 0; nurse < NURSES; nurse++) {
                    readSteps(ward.nurses[nurse], day, plan);
                    takePlace(nurse);
                }
                dropShort(ward, day);
            }
            return leastOf(keys);
        }

        private static int startTriple(Ward ward) {
            int triple = 0;
            for (int nurse = 0; nurse < NURSES; nurse++) {
                triple += strideOf(nurse) * ward.nurses[nurse].start;
            }
            return triple;
        }

        private void readSteps(Nurse nurse, int day, long plan) {
            int bit = placeBit(nurse.number, day);
            for (int shift = OFF; shift < SHIFTS; shift++) {
                boolean changes = plan != NO_KEY && shiftAt(plan, bit) != shift;
                for (int state = 0; state < STATES; state++) {
                    int weight = nurse.penaltyOf(day, state, shift) + (changes ? CHANGE : 0);
                    statesAfter[cell(state, shift)] = nurse.stateAfter(day, state, shift);
                    steps[cell(state, shift)] = stepKey(bit, shift, weight);
                }
            }
        }

        /** How far two triples are apart that have neighbouring states of one nurse. */
        private static int strideOf(int nurse) {
            return nurse == 0 ? STATES * STATES : nurse == 1 ? STATES : 1;
        }

        private void takePlace(int nurse) {
            int stride = strideOf(nurse);
            Arrays.fill(nextKeys, NO_KEY);
            for (int triple = 0; triple < TRIPLES; triple++) {
                if (keys[triple] != NO_KEY) {
                    leaveTriple(triple, stride);
                }
            }
            long[] oldKeys = keys;
            keys = nextKeys;
            nextKeys = oldKeys;
        }

        private void leaveTriple(int triple, int stride) {
            int state = triple / stride % STATES;
            int others = triple - stride * state;
            for (int shift = OFF; shift < SHIFTS; shift++) {
                int nextState = statesAfter[cell(state, shift)];
                if (nextState != NONE) {
                    int next = others + stride * nextState;
                    long key = keys[triple] + steps[cell(state, shift)];
                    nextKeys[next] = Math.min(nextKeys[next], key);
                }
            }
        }

        /** All ways to a triple have the same shifts on the day: its key tells for all of them. */
        private void dropShort(Ward ward, int day) {
            for (int triple = 0; triple < TRIPLES; triple++) {
                if (keys[triple] != NO_KEY && ward.countShort(keys[triple], day) > 0) {
                    keys[triple] = NO_KEY;
                }
            }
        }
    }

    /** The prices of the work shifts, and the bound that they have raised. */
    private static final class Pricing {
        /** Off has a price too, which is always 0. */
        private final int[] prices = new int[MOST_DAYS * SHIFTS];
        private int greatestLimit;
        private int roundCount;

        void clear() {
            Arrays.fill(prices, 0);
            greatestLimit = NONE;
            roundCount = 0;
        }

        /** Each nurse has to have a legal line. */
        void playRound(Ward ward, LineWalk walk) {
            long pricedLines = 0;
            for (int nurse = 0; nurse < NURSES; nurse++) {
                pricedLines += walk.walkLines(ward.nurses[nurse], prices);
            }
            // NONE is below the first limit, which has no prices and so is not negative.
            int limit = weightOf(pricedLines) + priceOfNeeds(ward);
            greatestLimit = Math.max(greatestLimit, limit);
            movePrices(ward, pricedLines);
        }

        private int priceOfNeeds(Ward ward) {
            int sum = 0;
            for (int i = 0; i < prices.length; i++) {
                sum += prices[i] * ward.needed[i];
            }
            return sum;
        }

        private void movePrices(Ward ward, long pricedLines) {
            int growth = nextGrowth();
            for (int day = 0; day < ward.dayCount; day++) {
                for (int shift = FIRST_WORK; shift < SHIFTS; shift++) {
                    int missing = ward.missing(pricedLines, day, shift);
                    int moved = prices[cell(day, shift)] + growth * missing;
                    prices[cell(day, shift)] = Math.max(0, Math.min(MOST_PRICE, moved));
                }
            }
        }

        /** Rounds are counted no further than to where the growth is 1 for good. */
        private int nextGrowth() {
            if (roundCount >= FIRST_GROWTH) {
                return 1;
            }
            roundCount++;
            return FIRST_GROWTH / roundCount;
        }
    }
}
