/**
 * "open(), contract(), before(), need(), cost(), pair() and fix(), when they do not throw, make all
 * prices 0, and there were no rounds and is no bound; the plan stays, but for open()."
 */
public final class ResetTest {
    private static final int NONE = WardRoster.NONE;

    public static void main(String[] args) {
        changesEndThePrices();
        otherCallsLeaveThePrices();
        Expect.end();
    }

    /** Whether the call gives something else or what was there already. */
    private static void changesEndThePrices() {
        for (int nurse = 0; nurse < 3; nurse++) {
            expectEndOfPrices("contract", nurse, 0, 4);
            expectEndOfPrices("contract", nurse, 1 << 15, 3);
            expectEndOfPrices("before", nurse, 0, 0);
            expectEndOfPrices("before", nurse, 3, 1);
            expectEndOfPrices("cost", nurse, 0, 0, 0);
            expectEndOfPrices("cost", nurse, 2, 3, 99);
            expectEndOfPrices("pair", nurse, 0, 0, 0);
            expectEndOfPrices("pair", nurse, 3, 3, 99);
            expectEndOfPrices("fix", nurse, 0, NONE);
            expectEndOfPrices("fix", nurse, 2, 0);
        }
        expectEndOfPrices("need", 0, 1, 1);
        expectEndOfPrices("need", 2, 3, 1);
        expectEndOfPrices("open", 3);
        expectEndOfPrices("open", 1);
    }

    /** Three days on which every work shift has a price. */
    private static WardRoster pricedWard() {
        WardRoster x = new WardRoster();
        x.open(3);
        needEverything(x);
        x.adopt();
        x.raise(1);
        expectPrices("before the change", x, 16);
        Expect.same("bound before the change", x.bound(), 0);
        return x;
    }

    private static void needEverything(WardRoster x) {
        for (int day = 0; day < x.days(); day++) {
            for (int shift = 1; shift < 4; shift++) {
                x.need(day, shift, 1);
            }
        }
    }

    private static void expectPrices(String what, WardRoster x, int due) {
        for (int day = 0; day < x.days(); day++) {
            for (int shift = 1; shift < 4; shift++) {
                Expect.same("price " + what, x.price(day, shift), due);
            }
        }
    }

    private static String planOf(WardRoster x) {
        StringBuilder plan = new StringBuilder();
        for (int place = 0; place < 3 * x.days(); place++) {
            plan.append(x.planned(place % 3, place / 3));
        }
        return plan.toString();
    }

    private static void expectEndOfPrices(String name, int... values) {
        String what = "after " + Face.describe(name, values);
        WardRoster x = pricedWard();
        String plan = planOf(x);
        Face.answer(x, name, values);
        Expect.same("bound " + what, x.bound(), NONE);
        expectPrices(what, x, 0);
        if (name.equals("open")) {
            Expect.same("no plan " + what, planOf(x), "-1".repeat(3 * x.days()));
            Expect.same("nothing to check " + what, x.check(), NONE);
        } else {
            Expect.same("plan " + what, planOf(x), plan);
        }
        needEverything(x);
        x.raise(1);
        expectPrices("of the first round again " + what, x, 16);
    }

    /** All other calls leave the prices, the bound and the number of the rounds. */
    private static void otherCallsLeaveThePrices() {
        String[] names = {"days", "least", "bound", "adopt", "repair", "check"};
        for (String name : names) {
            expectStayOfPrices(name);
        }
        expectStayOfPrices("lines", 0);
        expectStayOfPrices("line", 0);
        expectStayOfPrices("best", 0, 0);
        expectStayOfPrices("price", 0, 1);
        expectStayOfPrices("planned", 0, 0);
        expectStayOfPrices("cost", 0, 0, 0, 100);
        expectStayOfPrices("open", 7);
    }

    private static void expectStayOfPrices(String name, int... values) {
        String what = "after " + Face.describe(name, values);
        WardRoster x = pricedWard();
        Face.answer(x, name, values);
        expectPrices(what, x, 16);
        Expect.same("bound " + what, x.bound(), 0);
        x.raise(1);
        // Each nurse's priced line is early on all days, and so two too many.
        Expect.same("the second growth " + what, x.price(0, 1), 0);
        Expect.same("the second growth " + what, x.price(0, 2), 24);
    }
}
