import java.util.ArrayList;
import java.util.Arrays;
import java.util.LinkedHashMap;
import java.util.List;
import java.util.Map;
import java.util.function.Supplier;

/**
 * "Of several exceptions that fit the one named first is thrown; a call that throws changes
 * nothing." Each call that can be refused is made, in wards of several kinds, with mixtures of
 * good and wrong arguments; what can be told of the object afterwards is what can be told of one
 * that was made alike and not called.
 */
public final class RefusalTest {
    private static final int NONE = WardRoster.NONE;
    private static final String BOUNDS = "throws.IndexOutOfBoundsException";
    private static final String ARGUMENT = "throws.IllegalArgumentException";
    private static final String STATE = "throws.IllegalStateException";
    private static final String ELEMENT = "throws.NoSuchElementException";

    /** The range of an argument, and what a value outside of it throws. */
    private record Range(int lowest, int highest, String thrown) {
        boolean has(int value) {
            return lowest <= value && value <= highest;
        }
    }

    private static final Map<String, Supplier<WardRoster>> WARDS = new LinkedHashMap<>();

    public static void main(String[] args) {
        WARDS.put("a new object", WardRoster::new);
        WARDS.put("a full ward", RefusalTest::fullWard);
        WARDS.put("two days", RefusalTest::twoDays);
        WARDS.put("one day", RefusalTest::oneDay);
        WARDS.put("no roster", RefusalTest::noRoster);
        WARDS.put("no line", () -> noLine(1));
        WARDS.put("no plan and no roster", RefusalTest::neitherPlanNorRoster);
        readoutTellsEveryChange();
        for (String kind : WARDS.keySet()) {
            argumentsInside(kind);
            argumentsOutside(kind);
            beforeOutside(kind);
            askingChangesNothing(kind);
        }
        withoutRoster();
        withoutPlan();
        withoutLine();
        Expect.end();
    }

    /** Six days in which everything is set, a plan with faults, and three rounds. */
    private static WardRoster fullWard() {
        WardRoster x = new WardRoster();
        for (int nurse = 0; nurse < 3; nurse++) {
            x.contract(nurse, 1 << 4 * 3 + 1 | 1 << 4 * 2 + 1 | 1 << 4 * 3 + 2, 3);
            for (int day = 0; day < 6; day++) {
                x.cost(nurse, day, 1 + (nurse + day) % 3, 7 + 5 * nurse + day);
            }
            x.pair(nurse, nurse, 1, 11 + nurse);
            x.pair(nurse, 2, 2, 4);
        }
        x.before(0, 3, 1);
        x.before(1, 2, 1);
        for (int day = 0; day < 6; day++) {
            x.need(day, 1 + day % 3, 1 + day % 2);
        }
        x.adopt();
        x.fix(0, 1, 1);
        x.fix(1, 2, 0);
        x.fix(2, 5, 0);
        x.need(0, 2, 1);
        x.raise(3);
        return x;
    }

    /** Behind a ward of six days, so that day 2 was there once. */
    private static WardRoster twoDays() {
        WardRoster x = fullWard();
        x.open(2);
        x.need(0, 1, 2);
        x.need(1, 3, 1);
        x.cost(2, 0, 1, 30);
        x.adopt();
        x.contract(2, 1 << 4 * 1 + 0, 2);
        x.raise(2);
        return x;
    }

    private static WardRoster oneDay() {
        WardRoster x = new WardRoster();
        x.open(1);
        x.need(0, 2, 1);
        x.raise(1);
        return x;
    }

    /** There are a plan, lines and prices, but four nurses are needed on day 4. */
    private static WardRoster noRoster() {
        WardRoster x = fullWard();
        x.need(4, 1, 3);
        x.need(4, 3, 1);
        x.raise(5);
        return x;
    }

    /** There is a plan, but a nurse's contract forbids everything. */
    private static WardRoster noLine(int nurse) {
        WardRoster x = fullWard();
        x.contract(nurse, 65535, 2);
        return x;
    }

    private static WardRoster neitherPlanNorRoster() {
        WardRoster x = new WardRoster();
        x.open(3);
        x.need(1, 1, 2);
        x.need(1, 2, 2);
        return x;
    }

    /** Without this a readout that says too little would let every refused call pass. */
    private static void readoutTellsEveryChange() {
        expectTold("contract", 0, 1 << 4 * 3 + 1 | 1 << 4 * 2 + 1, 3);
        expectTold("contract", 1, 1 << 4 * 3 + 1 | 1 << 4 * 2 + 1 | 1 << 4 * 3 + 2, 2);
        expectTold("before", 0, 3, 2);
        expectTold("before", 0, 2, 1);
        expectTold("before", 2, 1, 3);
        expectTold("need", 3, 2, 1);
        expectTold("cost", 2, 5, 3, 1);
        expectTold("pair", 1, 3, 3, 1);
        expectTold("fix", 2, 0, 0);
        expectTold("fix", 0, 1, NONE);
        expectTold("open", 6);
        expectTold("open", 5);
        expectTold("raise", 1);
        expectTold("adopt");
        expectTold("repair");
        expectTold("need", 0, 2, 1);
    }

    private static void expectTold(String name, int... values) {
        WardRoster x = fullWard();
        String what = Face.describe(name, values);
        String answer = Face.answer(x, name, values);
        Expect.that(what + " is not refused", !answer.startsWith("throws."));
        Expect.that(what + " is told", !Readout.of(x).equals(Readout.of(fullWard())));
    }

    private static Map<String, Range[]> ranges(int days) {
        Range nurse = new Range(0, 2, BOUNDS);
        Range day = new Range(0, days - 1, BOUNDS);
        Range shift = new Range(0, 3, BOUNDS);
        Range work = new Range(1, 3, BOUNDS);
        Range cost = new Range(0, 99, ARGUMENT);
        Map<String, Range[]> ranges = new LinkedHashMap<>();
        ranges.put("open", new Range[] {new Range(1, 6, ARGUMENT)});
        ranges.put("contract", new Range[] {
            nurse, new Range(0, 65535, ARGUMENT), new Range(1, 4, ARGUMENT)});
        ranges.put("need", new Range[] {day, work, new Range(0, 3, ARGUMENT)});
        ranges.put("cost", new Range[] {nurse, day, shift, cost});
        ranges.put("pair", new Range[] {nurse, shift, shift, cost});
        ranges.put("fix", new Range[] {nurse, day, new Range(NONE, 3, ARGUMENT)});
        ranges.put("lines", new Range[] {nurse});
        ranges.put("line", new Range[] {nurse});
        ranges.put("best", new Range[] {nurse, day});
        ranges.put("raise", new Range[] {new Range(1, 12, ARGUMENT)});
        ranges.put("price", new Range[] {day, work});
        ranges.put("planned", new Range[] {nurse, day});
        return ranges;
    }

    /** The lowest and the highest value that fit are not refused. */
    private static void argumentsInside(String kind) {
        ranges(WARDS.get(kind).get().days()).forEach((name, ranges) -> {
            for (int[] values : mixtures(ranges, false)) {
                String answer = Face.answer(WARDS.get(kind).get(), name, values);
                Expect.that(kind + ": " + Face.describe(name, values) + " is not refused",
                        !answer.equals(BOUNDS) && !answer.equals(ARGUMENT));
            }
        });
    }

    private static void argumentsOutside(String kind) {
        ranges(WARDS.get(kind).get().days()).forEach((name, ranges) -> {
            for (int[] values : mixtures(ranges, true)) {
                String due = firstThrown(ranges, values);
                if (due != null) {
                    expectRefused(kind, due, name, values);
                }
            }
            for (int[] values : farOutside(ranges)) {
                expectRefused(kind, firstThrown(ranges, values), name, values);
            }
        });
    }

    /** IndexOutOfBoundsException is named before IllegalArgumentException wherever both are. */
    private static String firstThrown(Range[] ranges, int[] values) {
        String thrown = null;
        for (int i = 0; i < ranges.length; i++) {
            if (!ranges[i].has(values[i]) && (thrown == null || ranges[i].thrown == BOUNDS)) {
                thrown = ranges[i].thrown;
            }
        }
        return thrown;
    }

    /** Every choice of lowest and highest, or of lowest, too small and too large, at each place. */
    private static List<int[]> mixtures(Range[] ranges, boolean alsoOutside) {
        List<int[]> all = new ArrayList<>();
        all.add(new int[ranges.length]);
        for (int i = 0; i < ranges.length; i++) {
            int low = ranges[i].lowest;
            int high = ranges[i].highest;
            int[] choices = alsoOutside
                    ? new int[] {low, low - 1, high + 1} : new int[] {low, high};
            List<int[]> longer = new ArrayList<>();
            for (int[] values : all) {
                for (int choice : choices) {
                    int[] more = values.clone();
                    more[i] = choice;
                    longer.add(more);
                }
            }
            all = longer;
        }
        return all;
    }

    /** One argument at a time; also values that would fit if their upper bits were lost. */
    private static List<int[]> farOutside(Range[] ranges) {
        List<int[]> all = new ArrayList<>();
        for (int i = 0; i < ranges.length; i++) {
            int low = ranges[i].lowest;
            int[] far = {Integer.MIN_VALUE, Integer.MAX_VALUE, low - (1 << 20), low + (1 << 20),
                low + (1 << 31)};
            for (int value : far) {
                int[] values = Arrays.stream(ranges).mapToInt(Range::lowest).toArray();
                values[i] = value;
                all.add(values);
            }
        }
        return all;
    }

    /** How many days were worked has to fit the shift, so it has no range of its own. */
    private static void beforeOutside(String kind) {
        int[][] wrong = {
            {-1, 0}, {-1, 1}, {4, 0}, {4, 1}, {4, 4}, {Integer.MIN_VALUE, 0}, {1 << 20, 1},
            {0, 1}, {0, 4}, {0, -1}, {0, 1 << 20}, {0, Integer.MIN_VALUE},
            {1, 0}, {2, 0}, {3, 0}, {1, 5}, {2, 5}, {3, 5}, {1, -1}, {2, -1}, {3, -1},
            {1, Integer.MIN_VALUE}, {2, Integer.MAX_VALUE}, {3, (1 << 20) + 1}};
        for (int[] pair : wrong) {
            for (int nurse = 0; nurse < 3; nurse++) {
                expectRefused(kind, ARGUMENT, "before", nurse, pair[0], pair[1]);
            }
            expectRefused(kind, BOUNDS, "before", -1, pair[0], pair[1]);
            expectRefused(kind, BOUNDS, "before", 3, pair[0], pair[1]);
        }
        for (int nurse : new int[] {-1, 3, Integer.MIN_VALUE, Integer.MAX_VALUE}) {
            expectRefused(kind, BOUNDS, "before", nurse, 0, 0);
            expectRefused(kind, BOUNDS, "before", nurse, 3, 4);
        }
    }

    private static void withoutRoster() {
        for (String kind : new String[] {"no roster", "no line", "no plan and no roster"}) {
            for (int nurse = 0; nurse < 3; nurse++) {
                expectRefused(kind, ELEMENT, "best", nurse, 0);
                expectRefused(kind, ELEMENT, "best", nurse, 2);
            }
            expectRefused(kind, ELEMENT, "adopt");
        }
        expectRefused("no roster", ELEMENT, "repair");
        expectRefused("no line", ELEMENT, "repair");
    }

    /** That there is no plan is named before that there is no roster. */
    private static void withoutPlan() {
        expectRefused("a new object", STATE, "repair");
        expectRefused("one day", STATE, "repair");
        expectRefused("no plan and no roster", STATE, "repair");
    }

    private static void withoutLine() {
        for (int nurse = 0; nurse < 3; nurse++) {
            int without = nurse;
            WARDS.put("no line", () -> noLine(without));
            for (int rounds = 1; rounds <= 12; rounds++) {
                expectRefused("no line", STATE, "raise", rounds);
            }
            expectRefused("no line", ARGUMENT, "raise", 0);
            expectRefused("no line", ARGUMENT, "raise", 13);
        }
    }

    private static void expectRefused(String kind, String due, String name, int... values) {
        WardRoster x = WARDS.get(kind).get();
        String what = kind + ": " + Face.describe(name, values);
        Expect.same(what, Face.answer(x, name, values), due);
        Expect.same(what + " again", Face.answer(x, name, values), due);
        Expect.that(what + " changes nothing", Readout.of(x).equals(untouched(kind)));
    }

    private static String untouched(String kind) {
        return Readout.of(WARDS.get(kind).get());
    }

    private static void askingChangesNothing(String kind) {
        WardRoster x = WARDS.get(kind).get();
        int last = x.days() - 1;
        Face.answer(x, "days");
        Face.answer(x, "lines", 1);
        Face.answer(x, "line", 2);
        Face.answer(x, "least");
        Face.answer(x, "best", 1, last);
        Face.answer(x, "bound");
        Face.answer(x, "price", last, 3);
        Face.answer(x, "planned", 2, last);
        Face.answer(x, "check");
        Expect.that(kind + ": asking changes nothing", Readout.of(x).equals(untouched(kind)));
    }
}
