/** Promises 17 to 20: a plan, what is wrong with it, and its repair. */
public final class PlanTest {
    private static final int NONE = WardRoster.NONE;

    public static void main(String[] args) {
        promise17Adopt();
        promise17AdoptWithoutPenalty();
        promise17AdoptReplacesThePlan();
        promise18Repair();
        promise18RepairOfSeveral();
        promise18RepairFewestPlacesFirst();
        promise18RepairOfNothing();
        promise18RepairOfEveryPlace();
        promise18RepairOfAPlanWithFaults();
        promise18RepairRefused();
        promise19Planned();
        promise19PlannedIsNotTheBest();
        promise20Check();
        promise20CheckCountsFewerAlone();
        promise20CheckOfEachDay();
        promise20CheckOfEveryFault();
        Expect.end();
    }

    /** Two days that need an early nurse; nurse 0 is the dearest one, nurse 2 the cheapest. */
    private static WardRoster earlyWard() {
        WardRoster x = new WardRoster();
        x.open(2);
        for (int day = 0; day < 2; day++) {
            x.need(day, 1, 1);
            for (int nurse = 0; nurse < 3; nurse++) {
                x.cost(nurse, day, 1, 9 - 2 * nurse);
            }
        }
        return x;
    }

    private static void expectPlan(String what, WardRoster x, String... days) {
        for (int day = 0; day < days.length; day++) {
            StringBuilder got = new StringBuilder();
            for (int nurse = 0; nurse < 3; nurse++) {
                got.append(x.planned(nurse, day));
            }
            Expect.same(what + ", day " + day, got.toString(), days[day]);
        }
    }

    private static void promise17Adopt() {
        WardRoster x = earlyWard();
        Expect.same("adopt", x.adopt(), 10);
        expectPlan("adopted", x, "001", "001");
        x.fix(2, 1, 0);
        expectPlan("still the same", x, "001", "001");
        Expect.same("adopt again", x.adopt(), 12);
        expectPlan("adopted again", x, "001", "010");
        x.raise(1);
        x.adopt();
        x.repair();
        Expect.same("adopt and repair leave the prices", x.price(0, 1), 16);
        x.contract(0, 65535, 4);
        Expect.noElement("adopt without a roster", () -> x.adopt());
        expectPlan("a refused adopt leaves the plan", x, "001", "010");
    }

    private static void promise17AdoptWithoutPenalty() {
        WardRoster x = new WardRoster();
        Expect.same("a ward without costs", x.adopt(), 0);
        expectPlan("all off", x, "000", "000", "000", "000", "000", "000");
        Expect.same("is a plan without faults", x.check(), 0);
    }

    /** A plan that is there does not matter: it is the best roster that is taken up. */
    private static void promise17AdoptReplacesThePlan() {
        WardRoster x = earlyWard();
        x.fix(0, 0, 3);
        Expect.same("adopt", x.adopt(), 10);
        expectPlan("with a night", x, "301", "001");
        x.fix(0, 0, NONE);
        Expect.same("repair keeps it", x.repair(), 0);
        Expect.same("adopt again", x.adopt(), 10);
        expectPlan("before the other one", x, "001", "001");
        Expect.same("repair of the best", x.repair(), 0);
        x.open(1);
        x.need(0, 2, 3);
        x.adopt();
        expectPlan("one day", x, "222");
    }

    private static void promise18Repair() {
        WardRoster x = earlyWard();
        x.adopt();
        x.cost(2, 0, 1, 99);
        x.cost(2, 1, 1, 99);
        Expect.same("penalty alone changes nothing", x.repair(), 0);
        expectPlan("as it was", x, "001", "001");
        x.fix(2, 0, 0);
        Expect.same("nurse 1 for nurse 2", x.repair(), 2);
        expectPlan("one day is another one", x, "010", "001");
        x.fix(2, 0, NONE);
        Expect.same("the repair is the plan now", x.repair(), 0);
        expectPlan("and stays it", x, "010", "001");
        Expect.same("without faults", x.check(), 0);
        x.adopt();
        expectPlan("the best roster is another one", x, "010", "010");
        x.need(1, 3, 2);
        Expect.same("two nights more", x.repair(), 2);
        expectPlan("the others take them", x, "010", "313");
    }

    /** Of equally few changes the least penalty; of equal penalties the first one. */
    private static void promise18RepairOfSeveral() {
        WardRoster x = new WardRoster();
        x.open(2);
        x.adopt();
        x.need(1, 2, 1);
        x.cost(0, 1, 2, 5);
        x.cost(1, 1, 2, 3);
        x.cost(2, 1, 2, 4);
        Expect.same("one change", x.repair(), 1);
        expectPlan("of least penalty", x, "000", "020");
        x.need(0, 3, 1);
        Expect.same("one change more", x.repair(), 1);
        expectPlan("before all others", x, "003", "020");
        x.pair(2, 3, 0, 8);
        x.need(0, 3, 2);
        Expect.same("one change of two nurses", x.repair(), 1);
        expectPlan("the other one is before", x, "033", "020");
    }

    /** Fewer changes go before any penalty, and the plan need not be a roster any more. */
    private static void promise18RepairOfNothing() {
        WardRoster x = new WardRoster();
        x.adopt();
        for (int day = 0; day < 6; day++) {
            for (int nurse = 0; nurse < 3; nurse++) {
                x.cost(nurse, day, 0, 99);
            }
        }
        for (int nurse = 0; nurse < 3; nurse++) {
            x.pair(nurse, 0, 0, 99);
        }
        Expect.same("the dearest roster is kept", x.repair(), 0);
        for (int nurse = 0; nurse < 3; nurse++) {
            x.contract(nurse, 1, 4);
        }
        Expect.same("off behind off is forbidden", x.repair(), 9);
        expectPlan("every other day", x, "111", "000", "111", "000", "111", "000");
        Expect.same("a repair has no faults", x.check(), 0);
    }

    /** One change for a penalty of 198 goes before two changes for none. */
    private static void promise18RepairFewestPlacesFirst() {
        WardRoster x = new WardRoster();
        x.open(2);
        x.fix(0, 0, 1);
        x.fix(0, 1, 1);
        x.adopt();
        x.fix(0, 0, 2);
        x.fix(0, 1, NONE);
        x.cost(0, 1, 1, 99);
        x.pair(0, 2, 1, 99);
        Expect.same("one change", x.repair(), 1);
        expectPlan("for a penalty of 198", x, "200", "100");
        Expect.same("the best roster has none", x.least(), 0);
        x.contract(0, 1 << 4 * 2 + 1, 4);
        Expect.same("off for early", x.repair(), 1);
        expectPlan("is before the other shifts", x, "200", "000");
    }

    private static void promise18RepairOfEveryPlace() {
        for (int days = 1; days <= 6; days++) {
            WardRoster x = new WardRoster();
            x.open(days);
            for (int nurse = 0; nurse < 3; nurse++) {
                for (int day = 0; day < days; day++) {
                    x.fix(nurse, day, day % 2 == 0 ? 0 : 3);
                }
            }
            x.adopt();
            for (int nurse = 0; nurse < 3; nurse++) {
                for (int day = 0; day < days; day++) {
                    x.fix(nurse, day, day % 2 == 0 ? 3 : 0);
                }
            }
            Expect.same("no line of the plan is legal", x.check(), 300);
            Expect.same("every place is changed", x.repair(), 3 * days);
            Expect.same("every line is legal", x.check(), 0);
            Expect.same("nothing is left to repair", x.repair(), 0);
        }
    }

    /** It is counted from the plan as it is, though it is no roster any more. */
    private static void promise18RepairOfAPlanWithFaults() {
        WardRoster x = new WardRoster();
        x.open(4);
        for (int day = 0; day < 4; day++) {
            x.fix(0, day, 2);
        }
        x.adopt();
        for (int day = 0; day < 4; day++) {
            x.fix(0, day, NONE);
        }
        x.contract(0, 0, 1);
        Expect.same("four days on end", x.check(), 100);
        Expect.same("two days off", x.repair(), 2);
        expectPlan("on the first day and the third", x, "000", "200", "000", "200");
        x.before(0, 2, 1);
        Expect.same("off on day 0 anyway", x.repair(), 0);
        x.contract(0, 0, 4);
        x.fix(0, 0, 2);
        Expect.same("one day back", x.repair(), 1);
        expectPlan("from the repaired plan", x, "200", "200", "000", "200");
    }

    private static void promise18RepairRefused() {
        WardRoster x = earlyWard();
        Expect.badState("repair without a plan", () -> x.repair());
        x.contract(0, 65535, 4);
        Expect.badState("repair without a plan or a roster", () -> x.repair());
        x.contract(0, 0, 4);
        x.adopt();
        x.need(0, 2, 3);
        Expect.noElement("repair without a roster", () -> x.repair());
        expectPlan("a refused repair leaves the plan", x, "001", "001");
        x.need(0, 2, 0);
        Expect.same("repair", x.repair(), 0);
        x.open(2);
        Expect.badState("repair after open", () -> x.repair());
    }

    private static void promise19Planned() {
        WardRoster x = earlyWard();
        expectPlan("no plan", x, "-1-1-1", "-1-1-1");
        x.least();
        Expect.same("the best roster is no plan", x.planned(2, 0), NONE);
        x.adopt();
        expectPlan("a plan", x, "001", "001");
        for (int nurse : Expect.outside(0, 2)) {
            Expect.outOfBounds("planned nurse " + nurse, () -> x.planned(nurse, 0));
        }
        for (int day : Expect.outside(0, 1)) {
            Expect.outOfBounds("planned day " + day, () -> x.planned(0, day));
        }
        x.open(2);
        Expect.same("no plan after open", x.planned(2, 0), NONE);
        Expect.outOfBounds("planned day without a plan", () -> x.planned(0, 2));
        Expect.outOfBounds("planned nurse without a plan", () -> x.planned(3, 0));
    }

    private static void promise19PlannedIsNotTheBest() {
        WardRoster x = earlyWard();
        x.adopt();
        x.cost(2, 0, 1, 99);
        Expect.same("another roster is the best", x.best(1, 0), 1);
        expectPlan("the plan stays", x, "001", "001");
        x.need(0, 1, 0);
        x.before(1, 1, 1);
        x.pair(1, 1, 0, 50);
        x.contract(2, 65535, 1);
        expectPlan("without a roster too", x, "001", "001");
    }

    private static void promise20Check() {
        WardRoster x = earlyWard();
        Expect.same("no plan", x.check(), NONE);
        x.adopt();
        Expect.same("no faults", x.check(), 0);
        x.need(0, 1, 3);
        Expect.same("early is short on day 0", x.check(), 1);
        x.need(0, 2, 1);
        x.need(1, 3, 1);
        Expect.same("three shifts are short", x.check(), 3);
        x.contract(0, 1, 4);
        Expect.same("off behind off", x.check(), 103);
        x.fix(1, 1, 2);
        Expect.same("another shift is fixed", x.check(), 203);
        x.before(2, 1, 3);
        Expect.same("five days on end", x.check(), 303);
        x.before(2, 1, 2);
        Expect.same("four days on end", x.check(), 203);
        x.contract(2, 0, 3);
        Expect.same("four days are too many", x.check(), 303);
        x.fix(2, 0, 3);
        Expect.same("a line counts once", x.check(), 303);
        x.before(0, 1, 4);
        Expect.same("what comes before alone does not count", x.check(), 303);
        x.contract(0, 1 << 4, 1);
        Expect.same("the pair with what comes before", x.check(), 303);
        x.contract(0, 0, 1);
        Expect.same("nothing forbidden", x.check(), 203);
        x.open(2);
        Expect.same("no plan after open", x.check(), NONE);
    }

    /** As many as are needed, or more, are no fault; nor is a plan that others would better. */
    private static void promise20CheckCountsFewerAlone() {
        WardRoster x = new WardRoster();
        x.open(1);
        x.fix(0, 0, 3);
        x.fix(1, 0, 3);
        x.adopt();
        for (int many = 0; many <= 3; many++) {
            x.need(0, 3, many);
            Expect.same("two nurses where " + many + " are needed", x.check(), many > 2 ? 1 : 0);
        }
        x.need(0, 3, 0);
        x.cost(0, 0, 3, 99);
        Expect.same("a penalty is no fault", x.check(), 0);
        x.need(0, 1, 3);
        x.need(0, 2, 3);
        Expect.same("each shift counts once", x.check(), 2);
    }

    /** A nurse who has a shift on one day is missed on all other ones, the last one too. */
    private static void promise20CheckOfEachDay() {
        for (int place = 0; place < 18; place++) {
            WardRoster x = new WardRoster();
            x.fix(place % 3, place / 3, 2);
            x.adopt();
            for (int day = 0; day < 6; day++) {
                x.need(day, 2, 1);
                boolean isThere = day == place / 3;
                Expect.same("place " + place + ", day " + day, x.check(), isThere ? 0 : 1);
                x.need(day, 2, 0);
            }
        }
    }

    private static void promise20CheckOfEveryFault() {
        WardRoster x = new WardRoster();
        x.adopt();
        int shorts = 0;
        for (int day = 0; day < 6; day++) {
            for (int shift = 1; shift < 4; shift++) {
                x.need(day, shift, 3);
                shorts++;
                Expect.same("shifts that are short", x.check(), shorts);
            }
        }
        for (int nurse = 0; nurse < 3; nurse++) {
            x.contract(nurse, 65535, 1);
            Expect.same("lines that are not legal", x.check(), 100 * nurse + 118);
        }
    }
}
