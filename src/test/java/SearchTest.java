/** Promises 10 to 13: the legal lines of a nurse, and the best roster. */
public final class SearchTest {
    private static final int NONE = WardRoster.NONE;

    public static void main(String[] args) {
        promise10Lines();
        promise11Line();
        promise12Least();
        promise12LeastAtTheEdges();
        promise12NothingIsNotNone();
        promise13Best();
        promise13BestChangesWithTheWard();
        promise13BestOfSeveral();
        Expect.end();
    }

    private static void promise10Lines() {
        WardRoster x = new WardRoster();
        Expect.same("lines of six days", x.lines(0), 2881);
        x.contract(0, 0, 3);
        Expect.same("lines with longest 3", x.lines(0), 2152);
        x.contract(0, 0, 1);
        Expect.same("lines with longest 1", x.lines(0), 217);
        x.contract(0, 65535 - 1, 4);
        Expect.same("only off behind off", x.lines(0), 1);
        x.contract(0, 65535, 4);
        Expect.same("no line", x.lines(0), 0);
        x.open(5);
        x.before(1, 2, 4);
        Expect.same("off on day 0", x.lines(1), 256);
        x.fix(1, 0, 1);
        Expect.same("fixed work behind four days", x.lines(1), 0);
        x.fix(1, 0, NONE);
        x.before(1, 2, 1);
        Expect.same("behind one day of work", x.lines(1), 1024 - 4 * 81);
        Expect.same("lines of another nurse", x.lines(2), 781);
        for (int nurse : Expect.outside(0, 2)) {
            Expect.outOfBounds("lines " + nurse, () -> x.lines(nurse));
        }
    }

    private static void promise11Line() {
        WardRoster x = new WardRoster();
        x.open(2);
        for (int shift = 0; shift < 4; shift++) {
            x.cost(0, 0, shift, 10 + shift);
            x.cost(0, 1, shift, 20 - shift);
        }
        Expect.same("the least of the costs", x.line(0), 27);
        x.pair(0, 0, 3, 50);
        Expect.same("early and night", x.line(0), 28);
        x.pair(0, 0, 0, 40);
        x.pair(0, 0, 1, 1);
        Expect.same("with the pair before day 0", x.line(0), 29);
        x.contract(0, 1 << (4 * 1 + 3) | 1 << (4 * 2 + 3), 4);
        Expect.same("early and late", x.line(0), 30);
        x.need(0, 3, 3);
        Expect.same("needs don't count for a line", x.line(0), 30);
        x.contract(0, 65535, 4);
        Expect.same("no line", x.line(0), NONE);
        Expect.same("the line of another nurse", x.line(1), 0);
        mostPenalty(x);
        for (int nurse : Expect.outside(0, 2)) {
            Expect.outOfBounds("line " + nurse, () -> x.line(nurse));
        }
    }

    private static void mostPenalty(WardRoster x) {
        x.open(6);
        for (int nurse = 0; nurse < 3; nurse++) {
            for (int shift = 0; shift < 4; shift++) {
                for (int day = 0; day < 6; day++) {
                    x.cost(nurse, day, shift, 99);
                }
                for (int next = 0; next < 4; next++) {
                    x.pair(nurse, shift, next, 99);
                }
            }
        }
        Expect.same("the most a line can cost", x.line(1), 6 * 198);
        Expect.same("the most a roster can cost", x.least(), 18 * 198);
        Expect.same("the most a plan can cost", x.adopt(), 18 * 198);
        for (int place = 0; place < 18; place++) {
            x.fix(place % 3, place / 3, place / 3 % 3 == 0 ? 0 : 3);
        }
        Expect.same("changes beside the most penalty", x.repair(), 12);
    }

    private static void promise12Least() {
        WardRoster x = new WardRoster();
        x.open(1);
        x.need(0, 1, 1);
        x.need(0, 3, 1);
        int[][] costs = {{0, 5, 9, 9}, {0, 4, 9, 7}, {0, 1, 9, 3}};
        for (int nurse = 0; nurse < 3; nurse++) {
            for (int shift = 0; shift < 4; shift++) {
                x.cost(nurse, 0, shift, costs[nurse][shift]);
            }
        }
        Expect.same("nurse 1 early, nurse 2 night", x.least(), 7);
        x.fix(2, 0, 1);
        Expect.same("nurse 2 early, nurse 1 night", x.least(), 8);
        x.contract(1, 1 << 3, 4);
        Expect.same("nurse 2 early, nurse 0 night", x.least(), 10);
        x.contract(0, 1 << 3, 4);
        Expect.same("nobody for the night", x.least(), NONE);
        x.need(0, 3, 0);
        Expect.same("no night needed", x.least(), 1);
    }

    private static void promise12LeastAtTheEdges() {
        WardRoster x = new WardRoster();
        for (int day = 0; day < 6; day++) {
            x.need(day, 2, 2);
        }
        Expect.same("twelve late shifts and four on end", x.least(), 0);
        x.contract(0, 0, 2);
        x.contract(1, 0, 2);
        x.contract(2, 0, 2);
        Expect.same("twelve late shifts and two on end", x.least(), 0);
        x.before(0, 2, 2);
        x.before(1, 2, 2);
        Expect.same("two of three must be off on day 0", x.least(), NONE);
        x.need(0, 2, 1);
        Expect.same("one of three works on day 0", x.least(), 0);
        x.need(1, 1, 2);
        Expect.same("four nurses on day 1", x.least(), NONE);
        x.need(1, 1, 1);
        Expect.same("all work on day 1, so two are off on day 3", x.least(), NONE);
        x.need(3, 2, 1);
        Expect.same("one of three works on day 3", x.least(), 0);
    }

    /** A penalty of 0 is told from no line and no roster. */
    private static void promise12NothingIsNotNone() {
        WardRoster x = new WardRoster();
        x.open(1);
        Expect.same("line", x.line(0), 0);
        Expect.same("least", x.least(), 0);
        x.fix(0, 0, 1);
        x.contract(0, 1 << 1, 4);
        Expect.same("no line", x.line(0), NONE);
        Expect.same("no lines", x.lines(0), 0);
        Expect.same("no roster", x.least(), NONE);
        x.contract(0, 1 << 0, 4);
        Expect.same("one line", x.lines(0), 1);
        Expect.same("its penalty", x.line(0), 0);
        Expect.same("the roster's", x.least(), 0);
    }

    /** Each kind of change is seen by a best roster that was asked for before it. */
    private static void promise13BestChangesWithTheWard() {
        WardRoster x = new WardRoster();
        x.open(2);
        expectBest(x, "000", "000");
        x.need(1, 3, 1);
        expectBest(x, "000", "003");
        x.cost(2, 1, 3, 5);
        expectBest(x, "000", "030");
        x.pair(1, 0, 3, 4);
        expectBest(x, "000", "300");
        x.fix(0, 1, 1);
        expectBest(x, "010", "130");
        x.contract(1, 65535 - 1, 4);
        expectBest(x, "000", "103");
        x.before(0, 2, 4);
        expectBest(x, "000", "103");
        x.contract(0, 1 << 4 * 0 + 1 | 1 << 4 * 2 + 0, 4);
        Expect.same("no roster behind four days and no off", x.least(), NONE);
        x.before(0, 2, 2);
        expectBest(x, "100", "103");
        x.open(1);
        expectBest(x, "000");
        Expect.same("least of one day", x.least(), 0);
    }

    private static void promise13Best() {
        WardRoster x = new WardRoster();
        x.open(2);
        x.need(0, 1, 1);
        x.need(1, 3, 2);
        x.cost(2, 0, 1, 9);
        x.cost(1, 0, 1, 9);
        x.cost(0, 1, 3, 9);
        x.pair(0, 0, 0, 1);
        expectBest(x, "100", "033");
        x.fix(0, 0, 0);
        x.pair(2, 1, 3, 2);
        expectBest(x, "010", "133");
        x.contract(1, 1 << (4 * 1 + 3), 4);
        expectBest(x, "001", "133");
        for (int nurse : Expect.outside(0, 2)) {
            Expect.outOfBounds("best nurse " + nurse, () -> x.best(nurse, 0));
        }
        for (int day : Expect.outside(0, 1)) {
            Expect.outOfBounds("best day " + day, () -> x.best(0, day));
        }
        x.contract(2, 65535, 1);
        Expect.noElement("best without a roster", () -> x.best(0, 0));
        Expect.outOfBounds("no such day and no roster", () -> x.best(0, 2));
        Expect.outOfBounds("no such nurse and no roster", () -> x.best(-1, 0));
    }

    /** Places go day by day, and on a day nurse by nurse; the lesser shift comes first. */
    private static void promise13BestOfSeveral() {
        WardRoster x = new WardRoster();
        x.open(2);
        x.need(0, 1, 1);
        x.need(1, 2, 1);
        expectBest(x, "001", "002");
        x.contract(2, 1 << (4 * 1 + 2), 4);
        expectBest(x, "001", "020");
        for (int nurse = 0; nurse < 3; nurse++) {
            x.cost(nurse, 0, 0, 7);
        }
        expectBest(x, "111", "020");
    }

    private static void expectBest(WardRoster x, String... days) {
        for (int day = 0; day < days.length; day++) {
            StringBuilder got = new StringBuilder();
            for (int nurse = 0; nurse < 3; nurse++) {
                got.append(x.best(nurse, day));
            }
            Expect.same("best on day " + day, got.toString(), days[day]);
        }
    }
}
