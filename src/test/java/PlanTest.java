/** Promises 17 to 20: a plan, what is wrong with it, and its repair. */
public final class PlanTest {
    private static final int NONE = WardRoster.NONE;

    public static void main(String[] args) {
        promise17Adopt();
        promise18Repair();
        promise18RepairOfSeveral();
        promise18RepairOfNothing();
        promise18RepairRefused();
        promise19Planned();
        promise20Check();
        Expect.end();
    }

    /** Two days that need an early nurse; nurse 0 is the dearest one, nurse 2 the cheapest. */
    private static WardRoster earlyWard() {
        WardRoster x = new WardRoster();
        x.open(2);
        for (int day = 0; day < 2; day++) {
            x.need(day, 1, 1);
            for (int nurse = 0; nurse < 3; nurse++) {
                x.cost(nurse, day, 1, 9 - 2 * nurse);
            }
        }
        return x;
    }

    private static void expectPlan(String what, WardRoster x, String... days) {
        for (int day = 0; day < days.length; day++) {
            StringBuilder got = new StringBuilder();
            for (int nurse = 0; nurse < 3; nurse++) {
                got.append(x.planned(nurse, day));
            }
            Expect.same(what + ", day " + day, got.toString(), days[day]);
        }
    }

    private static void promise17Adopt() {
        WardRoster x = earlyWard();
        Expect.same("adopt", x.adopt(), 10);
        expectPlan("adopted", x, "001", "001");
        x.fix(2, 1, 0);
        expectPlan("still the same", x, "001", "001");
        Expect.same("adopt again", x.adopt(), 12);
        expectPlan("adopted again", x, "001", "010");
        x.raise(1);
        x.adopt();
        x.repair();
        Expect.same("adopt and repair leave the prices", x.price(0, 1), 16);
        x.contract(0, 65535, 4);
        Expect.noElement("adopt without a roster", () -> x.adopt());
        expectPlan("a refused adopt leaves the plan", x, "001", "010");
    }

    private static void promise18Repair() {
        WardRoster x = earlyWard();
        x.adopt();
        x.cost(2, 0, 1, 99);
        x.cost(2, 1, 1, 99);
        Expect.same("penalty alone changes nothing", x.repair(), 0);
        expectPlan("as it was", x, "001", "001");
        x.fix(2, 0, 0);
        Expect.same("nurse 1 for nurse 2", x.repair(), 2);
        expectPlan("one day is another one", x, "010", "001");
        x.fix(2, 0, NONE);
        Expect.same("the repair is the plan now", x.repair(), 0);
        expectPlan("and stays it", x, "010", "001");
        Expect.same("without faults", x.check(), 0);
        x.adopt();
        expectPlan("the best roster is another one", x, "010", "010");
        x.need(1, 3, 2);
        Expect.same("two nights more", x.repair(), 2);
        expectPlan("the others take them", x, "010", "313");
    }

    /** Of equally few changes the least penalty; of equal penalties the first one. */
    private static void promise18RepairOfSeveral() {
        WardRoster x = new WardRoster();
        x.open(2);
        x.adopt();
        x.need(1, 2, 1);
        x.cost(0, 1, 2, 5);
        x.cost(1, 1, 2, 3);
        x.cost(2, 1, 2, 4);
        Expect.same("one change", x.repair(), 1);
        expectPlan("of least penalty", x, "000", "020");
        x.need(0, 3, 1);
        Expect.same("one change more", x.repair(), 1);
        expectPlan("before all others", x, "003", "020");
        x.pair(2, 3, 0, 8);
        x.need(0, 3, 2);
        Expect.same("one change of two nurses", x.repair(), 1);
        expectPlan("the other one is before", x, "033", "020");
    }

    /** Fewer changes go before any penalty, and the plan need not be a roster any more. */
    private static void promise18RepairOfNothing() {
        WardRoster x = new WardRoster();
        x.adopt();
        for (int day = 0; day < 6; day++) {
            for (int nurse = 0; nurse < 3; nurse++) {
                x.cost(nurse, day, 0, 99);
            }
        }
        for (int nurse = 0; nurse < 3; nurse++) {
            x.pair(nurse, 0, 0, 99);
        }
        Expect.same("the dearest roster is kept", x.repair(), 0);
        for (int nurse = 0; nurse < 3; nurse++) {
            x.contract(nurse, 1, 4);
        }
        Expect.same("off behind off is forbidden", x.repair(), 9);
        expectPlan("every other day", x, "111", "000", "111", "000", "111", "000");
        Expect.same("a repair has no faults", x.check(), 0);
    }

    private static void promise18RepairRefused() {
        WardRoster x = earlyWard();
        Expect.badState("repair without a plan", () -> x.repair());
        x.contract(0, 65535, 4);
        Expect.badState("repair without a plan or a roster", () -> x.repair());
        x.contract(0, 0, 4);
        x.adopt();
        x.need(0, 2, 3);
        Expect.noElement("repair without a roster", () -> x.repair());
        expectPlan("a refused repair leaves the plan", x, "001", "001");
        x.need(0, 2, 0);
        Expect.same("repair", x.repair(), 0);
        x.open(2);
        Expect.badState("repair after open", () -> x.repair());
    }

    private static void promise19Planned() {
        WardRoster x = earlyWard();
        expectPlan("no plan", x, "-1-1-1", "-1-1-1");
        x.least();
        Expect.same("the best roster is no plan", x.planned(2, 0), NONE);
        x.adopt();
        expectPlan("a plan", x, "001", "001");
        for (int nurse : Expect.outside(0, 2)) {
            Expect.outOfBounds("planned nurse " + nurse, () -> x.planned(nurse, 0));
        }
        for (int day : Expect.outside(0, 1)) {
            Expect.outOfBounds("planned day " + day, () -> x.planned(0, day));
        }
        x.open(2);
        Expect.same("no plan after open", x.planned(2, 0), NONE);
        Expect.outOfBounds("planned day without a plan", () -> x.planned(0, 2));
        Expect.outOfBounds("planned nurse without a plan", () -> x.planned(3, 0));
    }

    private static void promise20Check() {
        WardRoster x = earlyWard();
        Expect.same("no plan", x.check(), NONE);
        x.adopt();
        Expect.same("no faults", x.check(), 0);
        x.need(0, 1, 3);
        Expect.same("early is short on day 0", x.check(), 1);
        x.need(0, 2, 1);
        x.need(1, 3, 1);
        Expect.same("three shifts are short", x.check(), 3);
        x.contract(0, 1, 4);
        Expect.same("off behind off", x.check(), 103);
        x.fix(1, 1, 2);
        Expect.same("another shift is fixed", x.check(), 203);
        x.before(2, 1, 3);
        Expect.same("five days on end", x.check(), 303);
        x.before(2, 1, 2);
        Expect.same("four days on end", x.check(), 203);
        x.contract(2, 0, 3);
        Expect.same("four days are too many", x.check(), 303);
        x.fix(2, 0, 3);
        Expect.same("a line counts once", x.check(), 303);
        x.before(0, 1, 4);
        Expect.same("what comes before alone does not count", x.check(), 303);
        x.contract(0, 1 << 4, 1);
        Expect.same("the pair with what comes before", x.check(), 303);
        x.contract(0, 0, 1);
        Expect.same("nothing forbidden", x.check(), 203);
        x.open(2);
        Expect.same("no plan after open", x.check(), NONE);
    }
}
