import java.util.ArrayList;
import java.util.HashMap;
import java.util.List;
import java.util.Map;
import java.util.NoSuchElementException;

/**
 * A second writing of the document, as near to its words and as far from WardRoster's ways as can
 * be: lines are listed one by one, and so are rosters while they are few; many rosters are weighed
 * from the last day back.
 */
public final class Oracle {
    private static final int NONE = -1;
    private static final long FEW = 20_000;

    private int days;
    private int[] forbidden;
    private int[] longest;
    private int[] beforeShift;
    private int[] beforeWorked;
    private int[][] needs;
    private int[][][] costs;
    private int[][][] pairCosts;
    private int[][] fixed;
    private int[][] plan;
    private int[][] prices;
    private int rounds;
    private int bound;
    private int[][] bestRoster;
    private boolean bestIsStale;

    public Oracle() {
        open(6);
    }

    public void open(int days) {
        value(days, 1, 6);
        this.days = days;
        forbidden = new int[3];
        longest = new int[] {4, 4, 4};
        beforeShift = new int[3];
        beforeWorked = new int[3];
        needs = new int[days][4];
        costs = new int[3][days][4];
        pairCosts = new int[3][4][4];
        fixed = new int[3][days];
        for (int nurse = 0; nurse < 3; nurse++) {
            java.util.Arrays.fill(fixed[nurse], NONE);
        }
        plan = null;
        changed();
    }

    public void contract(int nurse, int pairs, int longest) {
        index(nurse, 0, 2);
        value(pairs, 0, 65535);
        value(longest, 1, 4);
        forbidden[nurse] = pairs;
        this.longest[nurse] = longest;
        changed();
    }

    public void before(int nurse, int shift, int worked) {
        index(nurse, 0, 2);
        value(shift, 0, 3);
        value(worked, shift == 0 ? 0 : 1, shift == 0 ? 0 : 4);
        beforeShift[nurse] = shift;
        beforeWorked[nurse] = worked;
        changed();
    }

    public int need(int day, int shift, int many) {
        index(day, 0, days - 1);
        index(shift, 1, 3);
        value(many, 0, 3);
        return put(needs[day], shift, many);
    }

    public int cost(int nurse, int day, int shift, int cost) {
        index(nurse, 0, 2);
        index(day, 0, days - 1);
        index(shift, 0, 3);
        value(cost, 0, 99);
        return put(costs[nurse][day], shift, cost);
    }

    public int pair(int nurse, int a, int b, int cost) {
        index(nurse, 0, 2);
        index(a, 0, 3);
        index(b, 0, 3);
        value(cost, 0, 99);
        return put(pairCosts[nurse][a], b, cost);
    }

    public int fix(int nurse, int day, int shift) {
        index(nurse, 0, 2);
        index(day, 0, days - 1);
        value(shift, NONE, 3);
        return put(fixed[nurse], day, shift);
    }

    public int days() {
        return days;
    }

    public int lines(int nurse) {
        index(nurse, 0, 2);
        return legalLines(nurse).size();
    }

    public int line(int nurse) {
        index(nurse, 0, 2);
        int least = NONE;
        for (int[] line : legalLines(nurse)) {
            int penalty = penalty(nurse, line);
            if (least == NONE || penalty < least) {
                least = penalty;
            }
        }
        return least;
    }

    public int least() {
        findBest();
        return bestRoster == null ? NONE : penalty(bestRoster);
    }

    public int best(int nurse, int day) {
        index(nurse, 0, 2);
        index(day, 0, days - 1);
        findBest();
        if (bestRoster == null) {
            throw new NoSuchElementException();
        }
        return bestRoster[nurse][day];
    }

    public int raise(int rounds) {
        value(rounds, 1, 12);
        for (int nurse = 0; nurse < 3; nurse++) {
            if (lines(nurse) == 0) {
                throw new IllegalStateException();
            }
        }
        for (int round = 0; round < rounds; round++) {
            playRound();
        }
        return bound;
    }

    public int bound() {
        return rounds == 0 ? NONE : bound;
    }

    public int price(int day, int shift) {
        index(day, 0, days - 1);
        index(shift, 1, 3);
        return prices[day][shift];
    }

    public int adopt() {
        findBest();
        if (bestRoster == null) {
            throw new NoSuchElementException();
        }
        plan = bestRoster;
        return penalty(plan);
    }

    public int repair() {
        if (plan == null) {
            throw new IllegalStateException();
        }
        int[][] repaired = lightest(plan);
        if (repaired == null) {
            throw new NoSuchElementException();
        }
        int changes = differences(repaired, plan);
        plan = repaired;
        return changes;
    }

    public int planned(int nurse, int day) {
        index(nurse, 0, 2);
        index(day, 0, days - 1);
        return plan == null ? NONE : plan[nurse][day];
    }

    public int check() {
        if (plan == null) {
            return NONE;
        }
        int sum = 0;
        for (int nurse = 0; nurse < 3; nurse++) {
            sum += isLegal(nurse, plan[nurse]) ? 0 : 100;
        }
        for (int day = 0; day < days; day++) {
            for (int shift = 1; shift < 4; shift++) {
                sum += having(plan, day, shift) < needs[day][shift] ? 1 : 0;
            }
        }
        return sum;
    }

    private int put(int[] row, int at, int value) {
        int was = row[at];
        row[at] = value;
        changed();
        return was;
    }

    private void changed() {
        prices = new int[days][4];
        rounds = 0;
        bestIsStale = true;
    }

    private static void index(int index, int lowest, int highest) {
        if (index < lowest || index > highest) {
            throw new IndexOutOfBoundsException();
        }
    }

    private static void value(int value, int lowest, int highest) {
        if (value < lowest || value > highest) {
            throw new IllegalArgumentException();
        }
    }

    private void findBest() {
        if (bestIsStale) {
            bestRoster = lightest(null);
            bestIsStale = false;
        }
    }

    /** In their order: the one that is before the others first. */
    private List<int[]> legalLines(int nurse) {
        List<int[]> lines = new ArrayList<>();
        for (int code = 0; code < 1 << 2 * days; code++) {
            int[] line = new int[days];
            for (int day = 0; day < days; day++) {
                line[day] = code >> 2 * (days - 1 - day) & 3;
            }
            if (isLegal(nurse, line)) {
                lines.add(line);
            }
        }
        return lines;
    }

    private boolean isLegal(int nurse, int[] line) {
        for (int day = 0; day < days; day++) {
            int last = day == 0 ? beforeShift[nurse] : line[day - 1];
            if (fixed[nurse][day] != NONE && fixed[nurse][day] != line[day]) {
                return false;
            }
            if ((forbidden[nurse] & 1 << 4 * last + line[day]) != 0) {
                return false;
            }
            if (workedUpTo(nurse, line, day) > longest[nurse]) {
                return false;
            }
        }
        return true;
    }

    private int workedUpTo(int nurse, int[] line, int day) {
        if (line[day] == 0) {
            return 0;
        }
        int first = day;
        while (first > 0 && line[first - 1] != 0) {
            first--;
        }
        return day - first + 1 + (first == 0 ? beforeWorked[nurse] : 0);
    }

    private int penalty(int nurse, int[] line) {
        int sum = 0;
        for (int day = 0; day < days; day++) {
            int last = day == 0 ? beforeShift[nurse] : line[day - 1];
            sum += costs[nurse][day][line[day]] + pairCosts[nurse][last][line[day]];
        }
        return sum;
    }

    private int penalty(int[][] roster) {
        return penalty(0, roster[0]) + penalty(1, roster[1]) + penalty(2, roster[2]);
    }

    private static int having(int[][] roster, int day, int shift) {
        int count = 0;
        for (int[] line : roster) {
            count += line[day] == shift ? 1 : 0;
        }
        return count;
    }

    private boolean meetsNeeds(int[][] roster) {
        for (int day = 0; day < days; day++) {
            for (int shift = 1; shift < 4; shift++) {
                if (having(roster, day, shift) < needs[day][shift]) {
                    return false;
                }
            }
        }
        return true;
    }

    private int differences(int[][] roster, int[][] other) {
        int count = 0;
        for (int nurse = 0; nurse < 3; nurse++) {
            for (int day = 0; day < days; day++) {
                count += roster[nurse][day] != other[nurse][day] ? 1 : 0;
            }
        }
        return count;
    }

    private int weight(int[][] roster, int[][] from) {
        return penalty(roster) + (from == null ? 0 : 100_000 * differences(roster, from));
    }

    private boolean isBefore(int[][] roster, int[][] other) {
        for (int place = 0; place < 3 * days; place++) {
            int shift = roster[place % 3][place / 3];
            int otherShift = other[place % 3][place / 3];
            if (shift != otherShift) {
                return shift < otherShift;
            }
        }
        return false;
    }

    /** The best roster, or the repair of a plan that is given; null without a roster. */
    private int[][] lightest(int[][] from) {
        List<int[]> first = legalLines(0);
        List<int[]> second = legalLines(1);
        List<int[]> third = legalLines(2);
        if ((long) first.size() * second.size() * third.size() > FEW) {
            return lightestOfMany(from);
        }
        int[][] found = null;
        for (int[] a : first) {
            for (int[] b : second) {
                for (int[] c : third) {
                    int[][] roster = {a, b, c};
                    if (meetsNeeds(roster) && isBetter(roster, found, from)) {
                        found = roster;
                    }
                }
            }
        }
        return found;
    }

    private boolean isBetter(int[][] roster, int[][] found, int[][] from) {
        if (found == null) {
            return true;
        }
        int weight = weight(roster, from);
        int other = weight(found, from);
        return weight < other || weight == other && isBefore(roster, found);
    }

    private int[][] lightestOfMany(int[][] from) {
        Map<Integer, Integer> known = new HashMap<>();
        int[][] roster = new int[3][days];
        int[] last = beforeShift.clone();
        int[] worked = beforeWorked.clone();
        for (int day = 0; day < days; day++) {
            int shifts = firstLightest(day, last, worked, from, known);
            if (shifts == NONE) {
                return null;
            }
            for (int nurse = 0; nurse < 3; nurse++) {
                int shift = shifts >> 2 * (2 - nurse) & 3;
                roster[nurse][day] = shift;
                worked[nurse] = shift == 0 ? 0 : worked[nurse] + 1;
                last[nurse] = shift;
            }
        }
        return roster;
    }

    private int firstLightest(
            int day, int[] last, int[] worked, int[][] from, Map<Integer, Integer> known) {
        int least = Integer.MAX_VALUE;
        int found = NONE;
        for (int shifts = 0; shifts < 64; shifts++) {
            int weight = weightWith(shifts, day, last, worked, from, known);
            if (weight < least) {
                least = weight;
                found = shifts;
            }
        }
        return found;
    }

    /** The least weight from a day on when it has these shifts; MAX_VALUE when there is none. */
    private int weightWith(
            int shifts, int day, int[] last, int[] worked, int[][] from,
            Map<Integer, Integer> known) {
        int[] now = {shifts >> 4, shifts >> 2 & 3, shifts & 3};
        int[] nowWorked = new int[3];
        int[] have = new int[4];
        int weight = 0;
        for (int nurse = 0; nurse < 3; nurse++) {
            int shift = now[nurse];
            nowWorked[nurse] = shift == 0 ? 0 : worked[nurse] + 1;
            boolean isFixedElse = fixed[nurse][day] != NONE && fixed[nurse][day] != shift;
            boolean isForbidden = (forbidden[nurse] & 1 << 4 * last[nurse] + shift) != 0;
            if (isFixedElse || isForbidden || nowWorked[nurse] > longest[nurse]) {
                return Integer.MAX_VALUE;
            }
            have[shift]++;
            weight += costs[nurse][day][shift] + pairCosts[nurse][last[nurse]][shift];
            weight += from != null && from[nurse][day] != shift ? 100_000 : 0;
        }
        for (int shift = 1; shift < 4; shift++) {
            if (have[shift] < needs[day][shift]) {
                return Integer.MAX_VALUE;
            }
        }
        int rest = weightFrom(day + 1, now, nowWorked, from, known);
        return rest == Integer.MAX_VALUE ? rest : weight + rest;
    }

    private int weightFrom(
            int day, int[] last, int[] worked, int[][] from, Map<Integer, Integer> known) {
        if (day == days) {
            return 0;
        }
        int key = day;
        for (int nurse = 0; nurse < 3; nurse++) {
            key = (key * 4 + last[nurse]) * 5 + worked[nurse];
        }
        Integer stored = known.get(key);
        if (stored != null) {
            return stored;
        }
        int least = Integer.MAX_VALUE;
        for (int shifts = 0; shifts < 64; shifts++) {
            least = Math.min(least, weightWith(shifts, day, last, worked, from, known));
        }
        known.put(key, least);
        return least;
    }

    private void playRound() {
        int[][] priced = new int[3][];
        int limit = 0;
        for (int nurse = 0; nurse < 3; nurse++) {
            int least = Integer.MAX_VALUE;
            for (int[] line : legalLines(nurse)) {
                int weight = penalty(nurse, line) - priceOf(line);
                if (weight < least) {
                    least = weight;
                    priced[nurse] = line;
                }
            }
            limit += least;
        }
        int growth = Math.max(1, 16 / (1 + rounds));
        int[][] grown = new int[days][4];
        for (int day = 0; day < days; day++) {
            for (int shift = 1; shift < 4; shift++) {
                limit += prices[day][shift] * needs[day][shift];
                int missing = needs[day][shift] - having(priced, day, shift);
                int price = prices[day][shift] + growth * missing;
                grown[day][shift] = price < 0 ? 0 : price > 999 ? 999 : price;
            }
        }
        bound = rounds == 0 || limit > bound ? limit : bound;
        prices = grown;
        rounds++;
    }

    private int priceOf(int[] line) {
        int sum = 0;
        for (int day = 0; day < days; day++) {
            sum += line[day] == 0 ? 0 : prices[day][line[day]];
        }
        return sum;
    }
}
