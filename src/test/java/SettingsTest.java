/** Promises 1 to 9: a new object, and the calls that give a ward its contents. */
public final class SettingsTest {
    private static final int NONE = WardRoster.NONE;

    public static void main(String[] args) {
        promise01NewObject();
        promise02Open();
        promise02OpenClearsAll();
        promise02OpenMoreDaysAgain();
        promise02OpenIsNeededForDays();
        promise03Contract();
        promise03ContractIsReplaced();
        promise03ContractAtTheEdges();
        promise04Before();
        promise04BeforeIsReplaced();
        promise04BeforeAtTheEdges();
        promise04BeforeAndContractInAnyOrder();
        promise05Need();
        promise06Cost();
        promise07Pair();
        promise08Fix();
        eachSettingIsItsOwn();
        promise09Days();
        Expect.end();
    }

    private static void promise01NewObject() {
        Expect.same("NONE", NONE, -1);
        expectEmptyWard("a new object", new WardRoster(), 6);
    }

    private static void promise02Open() {
        for (int days = 1; days <= 6; days++) {
            WardRoster x = new WardRoster();
            x.open(days);
            expectEmptyWard("open(" + days + ")", x, days);
        }
        for (int days : Expect.outside(1, 6)) {
            WardRoster x = new WardRoster();
            Expect.badArgument("open(" + days + ")", () -> x.open(days));
        }
    }

    private static void promise02OpenClearsAll() {
        for (int days = 1; days <= 6; days++) {
            WardRoster x = fullWard();
            x.open(days);
            expectEmptyWard("open(" + days + ") of a full ward", x, days);
        }
    }

    /** Days that were gone for a while come back empty. */
    private static void promise02OpenMoreDaysAgain() {
        WardRoster x = fullWard();
        x.open(2);
        x.open(6);
        expectEmptyWard("open(6) behind open(2)", x, 6);
    }

    private static void promise02OpenIsNeededForDays() {
        for (int days = 1; days <= 6; days++) {
            WardRoster x = new WardRoster();
            x.open(days);
            int last = days - 1;
            int behind = days;
            Expect.same("the last day's need", x.need(last, 3, 0), 0);
            Expect.same("the last day's cost", x.cost(2, last, 3, 0), 0);
            Expect.same("the last day's fixed shift", x.fix(2, last, NONE), NONE);
            Expect.same("the last day's best", x.best(2, last), 0);
            Expect.same("the last day's price", x.price(last, 3), 0);
            Expect.same("the last day's plan", x.planned(2, last), NONE);
            Expect.outOfBounds("need behind it", () -> x.need(behind, 3, 0));
            Expect.outOfBounds("cost behind it", () -> x.cost(2, behind, 3, 0));
            Expect.outOfBounds("fix behind it", () -> x.fix(2, behind, NONE));
            Expect.outOfBounds("best behind it", () -> x.best(2, behind));
            Expect.outOfBounds("price behind it", () -> x.price(behind, 3));
            Expect.outOfBounds("planned behind it", () -> x.planned(2, behind));
        }
    }

    private static void expectEmptyWard(String what, WardRoster x, int days) {
        int[] linesOfDays = {1, 4, 16, 64, 256, 781, 2881};
        Expect.same(what + ": days", x.days(), days);
        Expect.same(what + ": check", x.check(), NONE);
        Expect.same(what + ": bound", x.bound(), NONE);
        Expect.same(what + ": least", x.least(), 0);
        for (int nurse = 0; nurse < 3; nurse++) {
            Expect.same(what + ": lines", x.lines(nurse), linesOfDays[days]);
            Expect.same(what + ": line", x.line(nurse), 0);
            expectEmptyNurse(what, x, nurse, days);
        }
        for (int day = 0; day < days; day++) {
            for (int shift = 1; shift < 4; shift++) {
                Expect.same(what + ": price", x.price(day, shift), 0);
                Expect.same(what + ": need", x.need(day, shift, 0), 0);
            }
        }
    }

    private static void expectEmptyNurse(String what, WardRoster x, int nurse, int days) {
        for (int day = 0; day < days; day++) {
            Expect.same(what + ": planned", x.planned(nurse, day), NONE);
            Expect.same(what + ": best", x.best(nurse, day), 0);
            Expect.same(what + ": fix", x.fix(nurse, day, NONE), NONE);
            for (int shift = 0; shift < 4; shift++) {
                Expect.same(what + ": cost", x.cost(nurse, day, shift, 0), 0);
            }
        }
        for (int pair = 0; pair < 16; pair++) {
            Expect.same(what + ": pair", x.pair(nurse, pair / 4, pair % 4, 0), 0);
        }
    }

    /** Six days in which everything is something else than open() makes it. */
    private static WardRoster fullWard() {
        WardRoster x = new WardRoster();
        for (int nurse = 0; nurse < 3; nurse++) {
            x.contract(nurse, 1 << 15, 2);
            x.before(nurse, 2, 1);
            for (int day = 0; day < 6; day++) {
                x.fix(nurse, day, day % 2 == 0 ? 1 : 0);
                for (int shift = 0; shift < 4; shift++) {
                    x.cost(nurse, day, shift, 5);
                }
            }
            for (int pair = 0; pair < 16; pair++) {
                x.pair(nurse, pair / 4, pair % 4, 9);
            }
        }
        x.need(0, 1, 3);
        x.adopt();
        x.need(3, 3, 2);
        x.raise(3);
        return x;
    }

    private static void promise03Contract() {
        for (int a = 0; a < 4; a++) {
            for (int b = 0; b < 4; b++) {
                expectForbidden(a, b);
            }
        }
        for (int longest = 1; longest <= 4; longest++) {
            expectLongest(longest);
        }
        WardRoster x = new WardRoster();
        x.contract(2, 65535, 4);
        Expect.same("all pairs forbidden", x.lines(2), 0);
        Expect.same("another nurse's contract", x.lines(1), 2881);
        for (int nurse : Expect.outside(0, 2)) {
            Expect.outOfBounds("contract nurse " + nurse, () -> x.contract(nurse, 0, 4));
            Expect.outOfBounds("contract nurse before pairs", () -> x.contract(nurse, -1, 9));
        }
        for (int pairs : Expect.outside(0, 65535)) {
            Expect.badArgument("contract pairs " + pairs, () -> x.contract(0, pairs, 4));
        }
        for (int longest : Expect.outside(1, 4)) {
            Expect.badArgument("contract longest " + longest, () -> x.contract(0, 0, longest));
        }
    }

    private static void promise03ContractIsReplaced() {
        WardRoster x = new WardRoster();
        x.open(2);
        x.contract(0, 1 << 0, 1);
        Expect.same("not two days off, nor two days of work", x.lines(0), 3);
        x.contract(0, 1 << 15, 2);
        Expect.same("not two nights", x.lines(0), 15);
        x.contract(0, 0, 4);
        Expect.same("nothing forbidden any more", x.lines(0), 16);
    }

    private static void promise03ContractAtTheEdges() {
        WardRoster x = new WardRoster();
        for (int nurse = 0; nurse < 3; nurse++) {
            x.open(2);
            x.contract(nurse, 0, 1);
            Expect.same("no pairs, longest 1", x.lines(nurse), 7);
            x.contract(nurse, 65534, 4);
            Expect.same("all pairs but the lowest bit, longest 4", x.lines(nurse), 1);
            x.contract(nurse, 65535, 4);
            Expect.same("all pairs, longest 4", x.lines(nurse), 0);
            x.contract(nurse, 1 << 15, 4);
            Expect.same("the highest bit, longest 4", x.lines(nurse), 15);
            Expect.same("the next nurse", x.lines((nurse + 1) % 3), 16);
            Expect.same("the nurse after that", x.lines((nurse + 2) % 3), 16);
        }
    }

    private static void expectForbidden(int a, int b) {
        WardRoster x = new WardRoster();
        x.open(2);
        x.contract(1, 1 << (4 * a + b), 4);
        x.fix(1, 0, a);
        boolean alsoFromBefore = a == 0 && b == 0;
        Expect.same("forbidden " + a + " " + b, x.lines(1), alsoFromBefore ? 0 : 3);
        x.fix(1, 1, b);
        Expect.same("forbidden " + a + " " + b + " and fixed", x.lines(1), 0);
        x.fix(1, 0, NONE);
        x.fix(1, 1, NONE);
        x.before(1, a, a == 0 ? 0 : 1);
        x.fix(1, 0, b);
        Expect.same("forbidden before day 0: " + a + " " + b, x.lines(1), 0);
    }

    /** One day more than the longest: the nurse works on all but the last, or the last two. */
    private static void expectLongest(int longest) {
        WardRoster x = new WardRoster();
        x.open(longest + 1);
        x.contract(0, 0, longest);
        for (int day = 0; day < longest; day++) {
            x.fix(0, day, 1 + day % 3);
        }
        Expect.same("longest " + longest + ": off must follow", x.lines(0), 1);
        x.fix(0, longest, 3);
        Expect.same("longest " + longest + ": one day too many", x.lines(0), 0);
        x.fix(0, longest, NONE);
        x.fix(0, longest - 1, 0);
        Expect.same("longest " + longest + ": off breaks the row", x.lines(0), 4);
    }

    private static void promise04Before() {
        WardRoster x = new WardRoster();
        for (int worked = 1; worked <= 4; worked++) {
            for (int longest = 1; longest <= 4; longest++) {
                x.open(1);
                x.contract(0, 0, longest);
                x.before(0, 3, worked);
                Expect.same("before worked " + worked + " of " + longest,
                        x.lines(0), worked < longest ? 4 : 1);
            }
        }
        x.open(3);
        x.before(0, 1, 2);
        x.contract(0, 0, 4);
        x.fix(0, 0, 2);
        x.fix(0, 1, 3);
        Expect.same("before counts with the days behind it", x.lines(0), 1);
        x.before(0, 0, 0);
        Expect.same("before is off again", x.lines(0), 4);
        x.pair(0, 3, 2, 8);
        x.before(0, 3, 1);
        Expect.same("the pair with what comes before", x.line(0), 8);
        for (int nurse : Expect.outside(0, 2)) {
            Expect.outOfBounds("before nurse " + nurse, () -> x.before(nurse, 0, 0));
            Expect.outOfBounds("before nurse first", () -> x.before(nurse, 9, 9));
        }
        for (int shift : Expect.outside(0, 3)) {
            Expect.badArgument("before shift " + shift, () -> x.before(0, shift, 1));
            Expect.badArgument("before shift " + shift, () -> x.before(0, shift, 0));
        }
        for (int shift = 1; shift < 4; shift++) {
            int work = shift;
            for (int worked : Expect.outside(1, 4)) {
                Expect.badArgument("before work " + worked, () -> x.before(0, work, worked));
            }
        }
        for (int worked : Expect.outside(0, 0)) {
            Expect.badArgument("before off " + worked, () -> x.before(0, 0, worked));
        }
    }

    private static void promise04BeforeIsReplaced() {
        WardRoster x = new WardRoster();
        x.open(1);
        x.contract(1, 0, 2);
        x.pair(1, 3, 0, 30);
        x.pair(1, 2, 0, 20);
        x.fix(1, 0, 0);
        x.before(1, 3, 4);
        Expect.same("a night before", x.line(1), 30);
        x.before(1, 2, 1);
        Expect.same("late before", x.line(1), 20);
        x.fix(1, 0, NONE);
        Expect.same("one day worked instead of four", x.lines(1), 4);
        x.before(1, 0, 0);
        x.fix(1, 0, 0);
        Expect.same("off before", x.line(1), 0);
    }

    private static void promise04BeforeAtTheEdges() {
        for (int nurse = 0; nurse < 3; nurse++) {
            for (int shift = 1; shift < 4; shift++) {
                WardRoster x = new WardRoster();
                x.before(nurse, shift, 1);
                Expect.same("one day worked", x.lines(nurse), 2881 - 3 * 3 * 3 * 3 * 4);
                x.before(nurse, shift, 4);
                Expect.same("four days worked", x.lines(nurse), 781);
                x.before(nurse, 0, 0);
                Expect.same("off", x.lines(nurse), 2881);
            }
        }
    }

    /** Four days worked are four, also where the contract that stood then allowed fewer. */
    private static void promise04BeforeAndContractInAnyOrder() {
        WardRoster x = new WardRoster();
        x.open(1);
        x.contract(0, 0, 1);
        x.before(0, 2, 4);
        x.contract(0, 0, 4);
        Expect.same("four days worked", x.lines(0), 1);
        x.before(0, 2, 3);
        Expect.same("three days worked", x.lines(0), 4);
        x.contract(0, 0, 3);
        Expect.same("three days worked, longest 3", x.lines(0), 1);
    }

    private static void promise05Need() {
        WardRoster x = new WardRoster();
        x.open(2);
        Expect.same("need 0", x.need(1, 2, 2), 0);
        Expect.same("need 2", x.need(1, 2, 3), 2);
        Expect.same("need 3", x.need(1, 2, 1), 3);
        Expect.same("need elsewhere", x.need(0, 2, 0), 0);
        Expect.same("need for another shift", x.need(1, 3, 0), 0);
        Expect.same("need makes the last nurse work", x.best(2, 1), 2);
        Expect.same("need leaves the first one off", x.best(0, 1), 0);
        x.need(1, 1, 3);
        Expect.same("four nurses needed", x.least(), NONE);
        for (int day : Expect.outside(0, 1)) {
            Expect.outOfBounds("need day " + day, () -> x.need(day, 1, 1));
            Expect.outOfBounds("need day first", () -> x.need(day, 1, 4));
        }
        for (int shift : Expect.outside(1, 3)) {
            Expect.outOfBounds("need shift " + shift, () -> x.need(0, shift, 1));
            Expect.outOfBounds("need shift first", () -> x.need(0, shift, -1));
        }
        for (int many : Expect.outside(0, 3)) {
            Expect.badArgument("need many " + many, () -> x.need(0, 1, many));
        }
    }

    private static void promise06Cost() {
        WardRoster x = new WardRoster();
        x.open(2);
        Expect.same("cost 0", x.cost(1, 1, 0, 99), 0);
        Expect.same("cost 99", x.cost(1, 1, 0, 98), 99);
        Expect.same("cost of another day", x.cost(1, 0, 0, 0), 0);
        Expect.same("cost of another nurse", x.cost(0, 1, 0, 0), 0);
        for (int shift = 1; shift < 4; shift++) {
            Expect.same("cost of another shift", x.cost(1, 1, shift, 90 + shift), 0);
        }
        Expect.same("the least cost", x.line(1), 91);
        Expect.same("the least cost's shift", x.best(1, 1), 1);
        for (int nurse : Expect.outside(0, 2)) {
            Expect.outOfBounds("cost nurse " + nurse, () -> x.cost(nurse, 0, 0, 0));
        }
        for (int day : Expect.outside(0, 1)) {
            Expect.outOfBounds("cost day " + day, () -> x.cost(0, day, 0, 0));
        }
        for (int shift : Expect.outside(0, 3)) {
            Expect.outOfBounds("cost shift " + shift, () -> x.cost(0, 0, shift, 0));
            Expect.outOfBounds("cost shift first", () -> x.cost(0, 0, shift, 100));
        }
        for (int cost : Expect.outside(0, 99)) {
            Expect.badArgument("cost cost " + cost, () -> x.cost(0, 0, 0, cost));
        }
    }

    private static void promise07Pair() {
        WardRoster x = new WardRoster();
        x.open(2);
        Expect.same("pair 0", x.pair(2, 1, 3, 99), 0);
        Expect.same("pair 99", x.pair(2, 1, 3, 7), 99);
        Expect.same("the pair the other way", x.pair(2, 3, 1, 0), 0);
        Expect.same("another nurse's pair", x.pair(1, 1, 3, 0), 0);
        x.fix(2, 0, 1);
        x.fix(2, 1, 3);
        Expect.same("the pair's cost", x.line(2), 7);
        x.pair(2, 0, 1, 20);
        Expect.same("with the pair before day 0", x.line(2), 27);
        for (int nurse : Expect.outside(0, 2)) {
            Expect.outOfBounds("pair nurse " + nurse, () -> x.pair(nurse, 0, 0, 0));
        }
        for (int shift : Expect.outside(0, 3)) {
            Expect.outOfBounds("pair a " + shift, () -> x.pair(0, shift, 0, 0));
            Expect.outOfBounds("pair b " + shift, () -> x.pair(0, 0, shift, 0));
            Expect.outOfBounds("pair shift first", () -> x.pair(0, 0, shift, 100));
        }
        for (int cost : Expect.outside(0, 99)) {
            Expect.badArgument("pair cost " + cost, () -> x.pair(0, 0, 0, cost));
        }
    }

    private static void promise08Fix() {
        WardRoster x = new WardRoster();
        x.open(3);
        Expect.same("fix none", x.fix(1, 2, 0), NONE);
        Expect.same("fix off", x.fix(1, 2, 3), 0);
        Expect.same("fixed", x.best(1, 2), 3);
        Expect.same("lines of a fixed day", x.lines(1), 16);
        Expect.same("fix night", x.fix(1, 2, NONE), 3);
        Expect.same("fix none again", x.fix(1, 2, NONE), NONE);
        Expect.same("lines of no fixed day", x.lines(1), 64);
        Expect.same("another day", x.fix(1, 1, NONE), NONE);
        Expect.same("another nurse", x.fix(0, 2, NONE), NONE);
        for (int nurse : Expect.outside(0, 2)) {
            Expect.outOfBounds("fix nurse " + nurse, () -> x.fix(nurse, 0, 0));
        }
        for (int day : Expect.outside(0, 2)) {
            Expect.outOfBounds("fix day " + day, () -> x.fix(0, day, 0));
            Expect.outOfBounds("fix day first", () -> x.fix(0, day, 4));
        }
        for (int shift : Expect.outside(NONE, 3)) {
            Expect.badArgument("fix shift " + shift, () -> x.fix(0, 0, shift));
        }
    }

    /** All needs, costs, pairs and fixed shifts are given, and then all are asked for. */
    private static void eachSettingIsItsOwn() {
        WardRoster x = new WardRoster();
        for (int i = 0; i < 18; i++) {
            Expect.same("first need", x.need(i / 3, i % 3 + 1, i * i % 4), 0);
            Expect.same("first fixed shift", x.fix(i / 6, i % 6, i % 5 - 1), NONE);
        }
        for (int i = 0; i < 72; i++) {
            Expect.same("first cost", x.cost(i / 24, i / 4 % 6, i % 4, 99 - i), 0);
        }
        for (int i = 0; i < 48; i++) {
            Expect.same("first pair", x.pair(i / 16, i / 4 % 4, i % 4, 50 + i), 0);
        }
        for (int i = 0; i < 18; i++) {
            Expect.same("need " + i, x.need(i / 3, i % 3 + 1, 0), i * i % 4);
            Expect.same("fixed shift " + i, x.fix(i / 6, i % 6, NONE), i % 5 - 1);
        }
        for (int i = 0; i < 72; i++) {
            Expect.same("cost " + i, x.cost(i / 24, i / 4 % 6, i % 4, 0), 99 - i);
        }
        for (int i = 0; i < 48; i++) {
            Expect.same("pair " + i, x.pair(i / 16, i / 4 % 4, i % 4, 0), 50 + i);
        }
    }

    private static void promise09Days() {
        WardRoster x = new WardRoster();
        Expect.same("days of a new object", x.days(), 6);
        for (int days = 1; days <= 6; days++) {
            x.open(days);
            Expect.same("days", x.days(), days);
        }
        Expect.badArgument("open(7)", () -> x.open(7));
        Expect.same("days after a refused open", x.days(), 6);
    }
}
