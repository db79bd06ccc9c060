/** Promises 14 to 16: rounds of prices, and the bound that they raise. */
public final class PricesTest {
    private static final int NONE = WardRoster.NONE;
    private static final int LONG_CLIMB = 12 * 190;

    public static void main(String[] args) {
        promise14Raise();
        promise14RaiseOfSeveralRounds();
        promise14RoundsAtOnceAreRoundsInTurn();
        promise14PricedLineOfSeveral();
        promise14PricesAreForTheRoundsAlone();
        promise14RaiseRefused();
        promise14RaiseAtTheEdges();
        promise15Bound();
        promise15BoundIsTheGreatestLimit();
        promise15BoundOfZeroIsNotNone();
        promise16Price();
        promise16PriceOfEachDay();
        promise16PriceNeverBelowZero();
        promise16PriceNeverAboveMost();
        promise16PriceComesDownFromMost();
        Expect.end();
    }

    /** One day that needs two early nurses, who cost 10, 20 and 30. */
    private static WardRoster earlyWard() {
        WardRoster x = new WardRoster();
        x.open(1);
        x.need(0, 1, 2);
        for (int nurse = 0; nurse < 3; nurse++) {
            x.cost(nurse, 0, 1, 10 * nurse + 10);
        }
        return x;
    }

    private static void promise14Raise() {
        WardRoster x = earlyWard();
        expectRound(x, "all off", 0, 32);
        expectRound(x, "all early: -22 - 12 - 2 + 2 * 32", 28, 24);
        expectRound(x, "two early: -14 - 4 + 2 * 24", 30, 24);
        expectRound(x, "nothing changes", 30, 24);
        Expect.same("the bound is met", x.least(), 30);
    }

    private static void expectRound(WardRoster x, String what, int bound, int price) {
        Expect.same("raise, " + what, x.raise(1), bound);
        Expect.same("bound, " + what, x.bound(), bound);
        Expect.same("price, " + what, x.price(0, 1), price);
    }

    private static void promise14RaiseOfSeveralRounds() {
        WardRoster x = earlyWard();
        Expect.same("three rounds at once", x.raise(3), 30);
        Expect.same("the price of three rounds", x.price(0, 1), 24);
        WardRoster y = earlyWard();
        y.fix(0, 0, 0);
        y.fix(1, 0, 0);
        y.fix(2, 0, 0);
        int[] growth = {16, 8, 5, 4, 3, 2, 2, 2, 1, 1, 1, 1, 1, 1, 1, 1, 1, 1, 1, 1};
        int price = 0;
        for (int k = 0; k < growth.length; k++) {
            price += 2 * growth[k];
            y.raise(1);
            Expect.same("growth after " + k + " rounds", y.price(0, 1), price);
        }
        y.fix(0, 0, 0);
        y.raise(12);
        Expect.same("twelve rounds at once", y.price(0, 1), 2 * (16 + 8 + 5 + 4 + 3 + 6 + 4));
    }

    private static void promise14RoundsAtOnceAreRoundsInTurn() {
        for (int rounds = 1; rounds <= 12; rounds++) {
            WardRoster x = unevenWard();
            WardRoster y = unevenWard();
            for (int round = 0; round < rounds; round++) {
                y.raise(1);
            }
            Expect.same("bound of " + rounds + " rounds", x.raise(rounds), y.bound());
            Expect.same("and of twelve more", x.raise(12), y.raise(12));
            for (int i = 0; i < 12; i++) {
                int day = i / 3;
                int shift = i % 3 + 1;
                Expect.same("price", x.price(day, shift), y.price(day, shift));
            }
        }
    }

    /** Four days on which the prices go up and down for a long time. */
    private static WardRoster unevenWard() {
        WardRoster x = new WardRoster();
        x.open(4);
        for (int day = 0; day < 4; day++) {
            x.need(day, 1 + day % 3, 1 + day % 2);
            x.need(day, 1 + (day + 1) % 3, 1);
            for (int nurse = 0; nurse < 3; nurse++) {
                x.cost(nurse, day, 1 + (nurse + day) % 3, 13 + 7 * nurse + day);
                x.cost(nurse, day, 0, 4 * nurse);
            }
        }
        x.contract(0, 1 << 4 * 3 + 1, 2);
        x.contract(1, 1 << 4 * 2 + 1, 3);
        x.pair(2, 1, 1, 9);
        return x;
    }

    /** Where a priced line costs as much as another one, the lesser shift is taken. */
    private static void promise14PricedLineOfSeveral() {
        WardRoster x = new WardRoster();
        x.open(1);
        x.need(0, 1, 1);
        for (int nurse = 0; nurse < 3; nurse++) {
            x.cost(nurse, 0, 1, 16);
        }
        expectRound(x, "all off", 0, 16);
        expectRound(x, "off is before early", 16, 24);
        x.open(2);
        x.need(0, 2, 1);
        x.need(1, 3, 1);
        for (int nurse = 0; nurse < 3; nurse++) {
            x.pair(nurse, 2, 3, 16);
        }
        x.raise(1);
        Expect.same("late after a round", x.price(0, 2), 16);
        x.raise(1);
        Expect.same("off and night is before late and off", x.price(0, 2), 24);
        Expect.same("all at night", x.price(1, 3), 0);
    }

    private static void promise14PricesAreForTheRoundsAlone() {
        WardRoster x = earlyWard();
        x.raise(1);
        Expect.same("there is a price", x.price(0, 1), 32);
        Expect.same("lines are as many", x.lines(0), 4);
        Expect.same("line without prices", x.line(0), 0);
        x.fix(0, 0, 1);
        x.raise(1);
        Expect.same("there is a price again", x.price(0, 1), 16);
        Expect.same("line of early without prices", x.line(0), 10);
        Expect.same("least without prices", x.least(), 30);
        Expect.same("adopt without prices", x.adopt(), 30);
        x.need(0, 1, 3);
        x.raise(1);
        Expect.same("repair without prices", x.repair(), 1);
        Expect.same("a price of two nurses", x.price(0, 1), 32);
    }

    private static void promise14RaiseAtTheEdges() {
        WardRoster x = earlyWard();
        Expect.same("one round", x.raise(1), 0);
        WardRoster y = earlyWard();
        Expect.same("twelve rounds", y.raise(12), 30);
        WardRoster z = earlyWard();
        z.contract(1, 65535 - 1, 1);
        z.before(1, 0, 0);
        Expect.same("a nurse with one line", z.lines(1), 1);
        Expect.same("is enough", z.raise(1), 0);
    }

    private static void promise14RaiseRefused() {
        WardRoster x = earlyWard();
        for (int rounds : Expect.outside(1, 12)) {
            Expect.badArgument("raise " + rounds, () -> x.raise(rounds));
        }
        for (int nurse = 0; nurse < 3; nurse++) {
            x.contract(nurse, 65535, 4);
            Expect.badState("raise without a line", () -> x.raise(1));
            Expect.badArgument("raise(0) without a line", () -> x.raise(0));
            Expect.badArgument("raise(13) without a line", () -> x.raise(13));
            Expect.same("bound after a refused raise", x.bound(), NONE);
            x.contract(nurse, 0, 4);
        }
        x.need(0, 2, 3);
        Expect.same("no roster", x.least(), NONE);
        Expect.same("raise without a roster", x.raise(1), 0);
    }

    private static void promise15Bound() {
        WardRoster x = new WardRoster();
        Expect.same("no rounds", x.bound(), NONE);
        x.open(1);
        x.need(0, 1, 1);
        for (int nurse = 0; nurse < 3; nurse++) {
            x.cost(nurse, 0, 1, 1);
        }
        expectRound(x, "all off", 0, 16);
        expectRound(x, "all early, the limit is -29", 0, 0);
        expectRound(x, "all off again", 0, 5);
        expectRound(x, "all early, the limit is -7", 0, 0);
        x.adopt();
        x.repair();
        Expect.same("adopt and repair leave the bound", x.bound(), 0);
        x.raise(12);
        Expect.that("the bound is not above the least", x.bound() <= x.least());
        x.cost(0, 0, 1, 1);
        Expect.same("no rounds since a change", x.bound(), NONE);
    }

    private static void promise15BoundIsTheGreatestLimit() {
        WardRoster x = new WardRoster();
        x.open(1);
        x.need(0, 1, 1);
        for (int nurse = 0; nurse < 3; nurse++) {
            x.cost(nurse, 0, 0, 5);
            x.cost(nurse, 0, 1, 6);
            x.cost(nurse, 0, 2, 99);
            x.cost(nurse, 0, 3, 99);
        }
        expectRound(x, "all off: 3 * 5", 15, 16);
        expectRound(x, "all early: -3 * 10 + 16", 15, 0);
        expectRound(x, "all off: 3 * 5 again", 15, 5);
        expectRound(x, "all early: 3 * 1 + 5", 15, 0);
        Expect.same("the bound is below the least", x.least(), 16);
    }

    private static void promise15BoundOfZeroIsNotNone() {
        WardRoster x = new WardRoster();
        Expect.same("no rounds yet", x.bound(), NONE);
        Expect.same("a ward that needs nothing", x.raise(1), 0);
        Expect.same("its bound", x.bound(), 0);
        x.raise(12);
        Expect.same("its bound after more rounds", x.bound(), 0);
    }

    private static void promise16Price() {
        WardRoster x = new WardRoster();
        x.open(2);
        x.need(1, 3, 1);
        x.need(0, 2, 3);
        x.raise(1);
        int[] due = {0, 48, 0, 0, 0, 16};
        for (int i = 0; i < 6; i++) {
            Expect.same("price " + i, x.price(i / 3, i % 3 + 1), due[i]);
        }
        for (int day : Expect.outside(0, 1)) {
            Expect.outOfBounds("price day " + day, () -> x.price(day, 1));
        }
        for (int shift : Expect.outside(1, 3)) {
            Expect.outOfBounds("price shift " + shift, () -> x.price(0, shift));
        }
    }

    /** A nurse who has a shift on one day is missed on all other ones, the last one too. */
    private static void promise16PriceOfEachDay() {
        for (int place = 0; place < 18; place++) {
            WardRoster x = new WardRoster();
            x.fix(place % 3, place / 3, 2);
            for (int day = 0; day < 6; day++) {
                x.need(day, 2, 1);
            }
            x.raise(1);
            for (int day = 0; day < 6; day++) {
                String what = "place " + place + ", day " + day;
                Expect.same("late at " + what, x.price(day, 2), day == place / 3 ? 0 : 16);
                Expect.same("early at " + what, x.price(day, 1), 0);
                Expect.same("night at " + what, x.price(day, 3), 0);
            }
        }
    }

    private static void promise16PriceNeverBelowZero() {
        WardRoster x = new WardRoster();
        x.open(1);
        for (int nurse = 0; nurse < 3; nurse++) {
            x.fix(nurse, 0, 2);
        }
        x.raise(1);
        Expect.same("nobody is needed and all are there", x.price(0, 2), 0);
        x.raise(12);
        Expect.same("in later rounds too", x.price(0, 2), 0);
        x.open(1);
        x.need(0, 1, 1);
        for (int nurse = 0; nurse < 3; nurse++) {
            x.cost(nurse, 0, 1, 2);
        }
        expectRound(x, "all off", 0, 16);
        expectRound(x, "all early: 16 - 8 * 2", 0, 0);
        expectRound(x, "all off", 0, 5);
        expectRound(x, "all early: 5 - 4 * 2", 0, 0);
    }

    private static void promise16PriceNeverAboveMost() {
        WardRoster x = new WardRoster();
        x.open(1);
        for (int nurse = 0; nurse < 3; nurse++) {
            x.fix(nurse, 0, 2);
        }
        x.need(0, 1, 3);
        for (int call = 0; call < 24; call++) {
            x.raise(12);
        }
        Expect.same("the price of 288 rounds", x.price(0, 1), 126 + 3 * 280);
        x.raise(11);
        Expect.same("exactly the most", x.price(0, 1), 999);
        Expect.same("the bound, by the price before", x.bound(), 3 * 996);
        Expect.same("the bound of 300 rounds", x.raise(1), 3 * 999);
        Expect.same("the price of 300 rounds", x.price(0, 1), 999);
        Expect.same("the bound of 312 rounds", x.raise(12), 3 * 999);
        Expect.same("the price of 312 rounds", x.price(0, 1), 999);
    }

    /** Two shifts vie for the nurses: the prices rise in turn, and at the top they waver. */
    private static void promise16PriceComesDownFromMost() {
        WardRoster x = new WardRoster();
        x.open(1);
        x.need(0, 1, 2);
        x.need(0, 2, 2);
        int early = 0;
        int late = 0;
        int wavers = 0;
        for (int k = 0; k < LONG_CLIMB + 12; k++) {
            int growth = Math.max(1, 16 / (1 + k));
            boolean allLate = late > early;
            boolean allEarly = !allLate && early > 0;
            early = Math.min(999, early + growth * (allEarly ? -1 : 2));
            late = Math.min(999, late + growth * (allLate ? -1 : 2));
            if (k < LONG_CLIMB && k % 12 == 11) {
                x.raise(12);
            } else if (k >= LONG_CLIMB) {
                x.raise(1);
                Expect.same("early after " + k, x.price(0, 1), early);
                Expect.same("late after " + k, x.price(0, 2), late);
                wavers += late == 998 ? 1 : 0;
            }
        }
        Expect.that("a price comes down from 999", wavers >= 4);
    }
}
