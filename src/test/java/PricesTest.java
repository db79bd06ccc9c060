/** Promises 14 to 16: rounds of prices, and the bound that they raise. */
public final class PricesTest {
    private static final int NONE = WardRoster.NONE;

    public static void main(String[] args) {
        promise14Raise();
        promise14RaiseOfSeveralRounds();
        promise14PricedLineOfSeveral();
        promise14RaiseRefused();
        promise15Bound();
        promise16Price();
        promise16PriceLimits();
        Expect.end();
    }

    /** One day that needs two early nurses, who cost 10, 20 and 30. */
    private static WardRoster earlyWard() {
        WardRoster x = new WardRoster();
        x.open(1);
        x.need(0, 1, 2);
        for (int nurse = 0; nurse < 3; nurse++) {
            x.cost(nurse, 0, 1, 10 * nurse + 10);
        }
        return x;
    }

    private static void promise14Raise() {
        WardRoster x = earlyWard();
        expectRound(x, "all off", 0, 32);
        expectRound(x, "all early: -22 - 12 - 2 + 2 * 32", 28, 24);
        expectRound(x, "two early: -14 - 4 + 2 * 24", 30, 24);
        expectRound(x, "nothing changes", 30, 24);
        Expect.same("the bound is met", x.least(), 30);
    }

    private static void expectRound(WardRoster x, String what, int bound, int price) {
        Expect.same("raise, " + what, x.raise(1), bound);
        Expect.same("bound, " + what, x.bound(), bound);
        Expect.same("price, " + what, x.price(0, 1), price);
    }

    private static void promise14RaiseOfSeveralRounds() {
        WardRoster x = earlyWard();
        Expect.same("three rounds at once", x.raise(3), 30);
        Expect.same("the price of three rounds", x.price(0, 1), 24);
        WardRoster y = earlyWard();
        y.fix(0, 0, 0);
        y.fix(1, 0, 0);
        y.fix(2, 0, 0);
        int[] growth = {16, 8, 5, 4, 3, 2, 2, 2, 1, 1, 1, 1, 1, 1, 1, 1, 1, 1, 1, 1};
        int price = 0;
        for (int k = 0; k < growth.length; k++) {
            price += 2 * growth[k];
            y.raise(1);
            Expect.same("growth after " + k + " rounds", y.price(0, 1), price);
        }
        y.fix(0, 0, 0);
        y.raise(12);
        Expect.same("twelve rounds at once", y.price(0, 1), 2 * (16 + 8 + 5 + 4 + 3 + 6 + 4));
    }

    /** Where a priced line costs as much as another one, the lesser shift is taken. */
    private static void promise14PricedLineOfSeveral() {
        WardRoster x = new WardRoster();
        x.open(1);
        x.need(0, 1, 1);
        for (int nurse = 0; nurse < 3; nurse++) {
            x.cost(nurse, 0, 1, 16);
        }
        expectRound(x, "all off", 0, 16);
        expectRound(x, "off is before early", 16, 24);
        x.open(2);
        x.need(0, 2, 1);
        x.need(1, 3, 1);
        for (int nurse = 0; nurse < 3; nurse++) {
            x.pair(nurse, 2, 3, 16);
        }
        x.raise(1);
        Expect.same("late after a round", x.price(0, 2), 16);
        x.raise(1);
        Expect.same("off and night is before late and off", x.price(0, 2), 24);
        Expect.same("all at night", x.price(1, 3), 0);
    }

    private static void promise14RaiseRefused() {
        WardRoster x = earlyWard();
        for (int rounds : Expect.outside(1, 12)) {
            Expect.badArgument("raise " + rounds, () -> x.raise(rounds));
        }
        for (int nurse = 0; nurse < 3; nurse++) {
            x.contract(nurse, 65535, 4);
            Expect.badState("raise without a line", () -> x.raise(1));
            Expect.badArgument("raise(0) without a line", () -> x.raise(0));
            Expect.badArgument("raise(13) without a line", () -> x.raise(13));
            Expect.same("bound after a refused raise", x.bound(), NONE);
            x.contract(nurse, 0, 4);
        }
        x.need(0, 2, 3);
        Expect.same("no roster", x.least(), NONE);
        Expect.same("raise without a roster", x.raise(1), 0);
    }

    private static void promise15Bound() {
        WardRoster x = new WardRoster();
        Expect.same("no rounds", x.bound(), NONE);
        x.open(1);
        x.need(0, 1, 1);
        for (int nurse = 0; nurse < 3; nurse++) {
            x.cost(nurse, 0, 1, 1);
        }
        expectRound(x, "all off", 0, 16);
        expectRound(x, "all early, the limit is -29", 0, 0);
        expectRound(x, "all off again", 0, 5);
        expectRound(x, "all early, the limit is -7", 0, 0);
        x.adopt();
        x.repair();
        Expect.same("adopt and repair leave the bound", x.bound(), 0);
        x.raise(12);
        Expect.that("the bound is not above the least", x.bound() <= x.least());
        x.cost(0, 0, 1, 1);
        Expect.same("no rounds since a change", x.bound(), NONE);
    }

    private static void promise16Price() {
        WardRoster x = new WardRoster();
        x.open(2);
        x.need(1, 3, 1);
        x.need(0, 2, 3);
        x.raise(1);
        int[] due = {0, 48, 0, 0, 0, 16};
        for (int i = 0; i < 6; i++) {
            Expect.same("price " + i, x.price(i / 3, i % 3 + 1), due[i]);
        }
        for (int day : Expect.outside(0, 1)) {
            Expect.outOfBounds("price day " + day, () -> x.price(day, 1));
        }
        for (int shift : Expect.outside(1, 3)) {
            Expect.outOfBounds("price shift " + shift, () -> x.price(0, shift));
        }
    }

    private static void promise16PriceLimits() {
        WardRoster x = new WardRoster();
        x.open(1);
        for (int nurse = 0; nurse < 3; nurse++) {
            x.fix(nurse, 0, 2);
        }
        x.need(0, 1, 3);
        for (int call = 0; call < 24; call++) {
            x.raise(12);
        }
        Expect.same("the price of 288 rounds", x.price(0, 1), 126 + 3 * 280);
        Expect.same("the price of a shift that nobody needs", x.price(0, 2), 0);
        Expect.same("the bound of 300 rounds", x.raise(12), 3 * 999);
        Expect.same("the price of 300 rounds", x.price(0, 1), 999);
        Expect.same("the bound of 312 rounds", x.raise(12), 3 * 999);
        Expect.same("the price of 312 rounds", x.price(0, 1), 999);
    }
}
