/** "An object is used for at most 512 calls after it has been made": all of them hold. */
public final class LongUseTest {
    private static final int NONE = WardRoster.NONE;
    private static final int CALLS = 512;

    public static void main(String[] args) {
        roundsUpToTheLastCall();
        changesUpToTheLastCall();
        repairsUpToTheLastCall();
        opensUpToTheLastCall();
        refusalsUpToTheLastCall();
        objectsShareNothing();
        sameCallsSameAnswers();
        Expect.end();
    }

    /** More than 6000 rounds, in which the growth has long been 1. */
    private static void roundsUpToTheLastCall() {
        WardRoster x = new WardRoster();
        x.need(5, 1, 2);
        x.need(5, 3, 2);
        x.fix(0, 5, 2);
        for (int call = 4; call < CALLS - 1; call++) {
            x.raise(12);
        }
        int night = x.price(5, 3);
        Expect.that("the price after 6084 rounds is at the top: " + night, night >= 998);
        WardRoster y = new WardRoster();
        y.open(1);
        y.need(0, 1, 1);
        for (int call = 3; call < CALLS; call++) {
            Expect.same("a bound that stays", y.raise(12), 0);
        }
        Expect.same("the last call", y.bound(), 0);
    }

    private static void changesUpToTheLastCall() {
        WardRoster x = new WardRoster();
        x.need(0, 1, 1);
        x.fix(0, 0, 0);
        x.fix(1, 0, 0);
        for (int call = 3; call < CALLS - 1; call += 2) {
            int cost = call % 100;
            x.cost(2, 0, 1, cost);
            Expect.same("least after call " + call, x.least(), cost);
        }
        WardRoster y = new WardRoster();
        for (int call = 0; call < CALLS - 3; call++) {
            Expect.same("cost at call " + call, y.cost(0, 0, 0, (call + 1) % 50), call % 50);
        }
        y.raise(1);
        y.cost(0, 0, 0, 0);
        Expect.same("the bound after a change, at the last call", y.bound(), NONE);
    }

    private static void repairsUpToTheLastCall() {
        WardRoster x = new WardRoster();
        x.adopt();
        for (int call = 1; call < CALLS - 1; call += 2) {
            int turn = call / 6;
            x.fix(call / 2 % 3, 5, turn % 4);
            Expect.same("repair after call " + call, x.repair(), turn == 0 ? 0 : 1);
        }
    }

    private static void opensUpToTheLastCall() {
        WardRoster x = new WardRoster();
        int[] linesOfDays = {1, 4, 16, 64, 256, 781, 2881};
        for (int call = 0; call < CALLS; call += 2) {
            int days = 1 + call / 2 % 6;
            x.open(days);
            Expect.same("lines after call " + call, x.lines(2), linesOfDays[days]);
        }
    }

    private static void refusalsUpToTheLastCall() {
        WardRoster x = new WardRoster();
        for (int call = 0; call < CALLS - 1; call++) {
            Expect.badState("repair, call " + call, () -> x.repair());
        }
        Expect.same("the last call", x.check(), NONE);
    }

    private static void objectsShareNothing() {
        WardRoster x = new WardRoster();
        WardRoster y = new WardRoster();
        x.open(2);
        x.need(1, 2, 1);
        x.fix(2, 0, 3);
        x.contract(1, 65535, 4);
        Expect.same("days of the other", y.days(), 6);
        Expect.same("need of the other", y.need(1, 2, 0), 0);
        Expect.same("fixed shift of the other", y.fix(2, 0, NONE), NONE);
        Expect.same("lines of the other", y.lines(1), 2881);
        x.contract(1, 0, 4);
        Expect.same("adopt", x.adopt(), 0);
        Expect.same("plan of the other", y.planned(2, 0), NONE);
        Expect.same("raise", x.raise(1), 0);
        Expect.same("bound of the other", y.bound(), NONE);
        Expect.same("price of the other", y.price(1, 2), 0);
        Expect.same("price", x.price(1, 2), 16);
    }

    private static void sameCallsSameAnswers() {
        Expect.same("two new objects", Readout.of(new WardRoster()), Readout.of(new WardRoster()));
        WardRoster x = new WardRoster();
        x.before(1, 2, 3);
        x.need(3, 1, 2);
        x.raise(7);
        x.adopt();
        x.open(6);
        Expect.same("a ward opened anew", Readout.of(x), Readout.of(new WardRoster()));
    }
}
