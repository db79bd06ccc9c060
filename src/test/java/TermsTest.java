/** The sentences of 'Terms' and of 'What it is', each with a test of its own. */
public final class TermsTest {
    private static final int NONE = WardRoster.NONE;
    private static final int EARLY = 1;
    private static final int LATE = 2;
    private static final int NIGHT = 3;

    public static void main(String[] args) {
        fixedShiftIsTheOneOfItsDay();
        fixedOffIsNotUnfixed();
        forbiddenPairOnAnyTwoDays();
        forbiddenPairIsNotItsReverse();
        forbiddenPairNeedsNeighbouringDays();
        forbiddenPairBeforeDayZero();
        nothingIsForbiddenBehindTheLastDay();
        longestAnywhereInTheLine();
        longestCountsEveryWorkShift();
        longestBeginsAnewBehindOff();
        longestCountsWhatComesBefore();
        whatComesBeforeAloneDoesNotCount();
        whatComesBeforeAloneIsNoFaultOfAPlan();
        rosterNeedsAtLeastSoMany();
        rosterNeedsEachShiftOfEachDay();
        rosterNeedsALineOfEachNurse();
        penaltyHasEachDaysCost();
        penaltyHasEachPairsCost();
        penaltyHasNoPairBehindTheLastDay();
        penaltyIsOfAllNurses();
        nursesGoByTheirNumbers();
        earlierDaysGoFirst();
        daysGoBeforeNurses();
        lesserShiftIsBefore();
        lessPenaltyGoesBeforeTheOrder();
        linesGoByDays();
        Expect.end();
    }

    private static WardRoster wardOf(int days) {
        WardRoster x = new WardRoster();
        x.open(days);
        return x;
    }

    private static int bit(int a, int b) {
        return 1 << (4 * a + b);
    }

    /** The nurse has these shifts on the days from 0 on, and no other ones. */
    private static void fixAll(WardRoster x, int nurse, int... shifts) {
        for (int day = 0; day < shifts.length; day++) {
            x.fix(nurse, day, shifts[day]);
        }
    }

    private static void expectLegal(String what, WardRoster x, int nurse, int... shifts) {
        fixAll(x, nurse, shifts);
        Expect.same(what + ", legal", x.lines(nurse), 1);
        Expect.same(what + ", a roster", x.least(), 0);
    }

    private static void expectIllegal(String what, WardRoster x, int nurse, int... shifts) {
        fixAll(x, nurse, shifts);
        Expect.same(what + ", not legal", x.lines(nurse), 0);
        Expect.same(what + ", no line", x.line(nurse), NONE);
        Expect.same(what + ", no roster", x.least(), NONE);
    }

    private static void fixedShiftIsTheOneOfItsDay() {
        for (int day = 0; day < 4; day++) {
            for (int shift = 0; shift < 4; shift++) {
                WardRoster x = wardOf(4);
                x.cost(1, day, shift, 99);
                x.fix(1, day, shift);
                Expect.same("lines with a fixed shift", x.lines(1), 64);
                Expect.same("penalty of a fixed shift", x.line(1), 99);
                Expect.same("best with a fixed shift", x.best(1, day), shift);
                Expect.same("another nurse's lines", x.lines(0), 256);
            }
        }
    }

    private static void fixedOffIsNotUnfixed() {
        WardRoster x = wardOf(1);
        Expect.same("nothing fixed", x.lines(0), 4);
        x.fix(0, 0, 0);
        Expect.same("off fixed", x.lines(0), 1);
        x.fix(0, 0, NONE);
        Expect.same("nothing fixed again", x.lines(0), 4);
    }

    private static void forbiddenPairOnAnyTwoDays() {
        for (int pair = 0; pair < 16; pair++) {
            int a = pair / 4;
            int b = pair % 4;
            for (int day = 0; day < 5; day++) {
                WardRoster x = wardOf(6);
                x.contract(2, bit(a, b), 4);
                x.fix(2, day, a);
                x.fix(2, day + 1, b);
                Expect.same("pair " + a + b + " on day " + day, x.lines(2), 0);
                Expect.that("another nurse may", x.lines(1) == 2881);
            }
        }
    }

    private static void forbiddenPairIsNotItsReverse() {
        WardRoster x = wardOf(2);
        x.contract(0, bit(EARLY, NIGHT), 4);
        expectIllegal("early and night", x, 0, EARLY, NIGHT);
        expectLegal("night and early", x, 0, NIGHT, EARLY);
        expectLegal("early and early", x, 0, EARLY, EARLY);
        expectLegal("night and night", x, 0, NIGHT, NIGHT);
    }

    private static void forbiddenPairNeedsNeighbouringDays() {
        WardRoster x = wardOf(3);
        x.contract(0, bit(EARLY, NIGHT), 4);
        expectLegal("a day between", x, 0, EARLY, 0, NIGHT);
        expectLegal("a day of work between", x, 0, EARLY, LATE, NIGHT);
        x.before(0, EARLY, 1);
        expectLegal("day 0 between", x, 0, 0, NIGHT, 0);
    }

    private static void forbiddenPairBeforeDayZero() {
        for (int i = 0; i < 48; i++) {
            int nurse = i / 16;
            int a = i / 4 % 4;
            int b = i % 4;
            WardRoster x = wardOf(1);
            x.contract(nurse, bit(a, b), 4);
            x.before(nurse, a, a == 0 ? 0 : 1);
            Expect.same("three shifts are left", x.lines(nurse), 3);
            expectIllegal("pair " + a + b + " before day 0", x, nurse, b);
            x.before(nurse, (a + 1) % 4, a == 3 ? 0 : 1);
            expectLegal("pair " + a + b + " behind another shift", x, nurse, b);
        }
    }

    private static void nothingIsForbiddenBehindTheLastDay() {
        WardRoster x = wardOf(2);
        int allBehindNight = bit(NIGHT, 0) | bit(NIGHT, 1) | bit(NIGHT, 2) | bit(NIGHT, 3);
        x.contract(0, allBehindNight, 4);
        expectLegal("night on the last day", x, 0, 0, NIGHT);
        expectIllegal("night on the day before", x, 0, NIGHT, 0);
    }

    /** Of each longest: so many days from any day on are legal, one day more is not. */
    private static void longestAnywhereInTheLine() {
        for (int longest = 1; longest <= 4; longest++) {
            for (int first = 0; first + longest < 6; first++) {
                WardRoster x = wardOf(6);
                x.contract(0, 0, longest);
                int[] line = new int[6];
                for (int day = first; day < first + longest; day++) {
                    line[day] = LATE;
                }
                expectLegal(longest + " days from day " + first, x, 0, line);
                line[first + longest] = LATE;
                expectIllegal(longest + " days and one from day " + first, x, 0, line);
            }
        }
        WardRoster x = wardOf(4);
        x.contract(0, 0, 4);
        expectLegal("all of four days", x, 0, EARLY, EARLY, EARLY, EARLY);
    }

    private static void longestCountsEveryWorkShift() {
        WardRoster x = wardOf(3);
        x.contract(0, 0, 2);
        expectIllegal("three kinds of work", x, 0, EARLY, LATE, NIGHT);
        expectLegal("two kinds of work", x, 0, 0, NIGHT, EARLY);
    }

    private static void longestBeginsAnewBehindOff() {
        WardRoster x = wardOf(6);
        x.contract(0, 0, 2);
        expectLegal("two and two", x, 0, EARLY, LATE, 0, NIGHT, NIGHT, 0);
        x.contract(0, 0, 1);
        expectLegal("every other day", x, 0, EARLY, 0, LATE, 0, NIGHT, 0);
        expectIllegal("two and two with longest 1", x, 0, EARLY, LATE, 0, NIGHT, NIGHT, 0);
    }

    private static void longestCountsWhatComesBefore() {
        for (int nurse = 0; nurse < 3; nurse++) {
            for (int worked = 1; worked <= 4; worked++) {
                for (int longest = worked; longest <= 4; longest++) {
                    expectUpToLongest(nurse, worked, longest);
                }
            }
        }
    }

    private static void expectUpToLongest(int nurse, int worked, int longest) {
        WardRoster x = wardOf(6);
        x.contract(nurse, 0, longest);
        x.before(nurse, NIGHT, worked);
        int[] line = new int[6];
        for (int day = 0; day < longest - worked; day++) {
            line[day] = EARLY;
        }
        expectLegal(worked + " before, up to " + longest, x, nurse, line);
        line[longest - worked] = EARLY;
        expectIllegal(worked + " before, more than " + longest, x, nurse, line);
    }

    private static void whatComesBeforeAloneDoesNotCount() {
        for (int longest = 1; longest <= 4; longest++) {
            for (int worked = longest; worked <= 4; worked++) {
                String what = worked + " before with longest " + longest;
                WardRoster x = wardOf(2);
                x.contract(0, 0, longest);
                x.before(0, LATE, worked);
                Expect.same(what, x.lines(0), 4);
                Expect.same(what, x.raise(1), 0);
                expectLegal(what + ", off", x, 0, 0, 0);
                expectLegal(what + ", off and work", x, 0, 0, NIGHT);
                expectIllegal(what + ", work", x, 0, NIGHT, 0);
            }
        }
    }

    private static void whatComesBeforeAloneIsNoFaultOfAPlan() {
        WardRoster x = wardOf(2);
        x.fix(0, 1, EARLY);
        x.fix(1, 0, EARLY);
        x.adopt();
        for (int nurse = 0; nurse < 3; nurse++) {
            x.before(nurse, LATE, 4);
            x.contract(nurse, 0, 1);
        }
        Expect.same("only nurse 1 works on day 0", x.check(), 100);
    }

    private static void rosterNeedsAtLeastSoMany() {
        for (int many = 0; many <= 3; many++) {
            for (int having = 0; having <= 3; having++) {
                WardRoster x = wardOf(1);
                for (int nurse = 0; nurse < 3; nurse++) {
                    x.fix(nurse, 0, nurse < having ? LATE : 0);
                }
                x.need(0, LATE, many);
                Expect.same(having + " nurses where " + many + " are needed",
                        x.least(), having >= many ? 0 : NONE);
            }
        }
    }

    private static void rosterNeedsEachShiftOfEachDay() {
        for (int day = 0; day < 3; day++) {
            for (int shift = 1; shift < 4; shift++) {
                WardRoster x = wardOf(3);
                x.need(day, shift, 1);
                Expect.same("need of a shift", x.best(2, day), shift);
                x.fix(0, day, 0);
                x.fix(1, day, 0);
                x.fix(2, day, shift % 3 + 1);
                Expect.same("another shift does not do", x.least(), NONE);
                x.fix(2, day, 0);
                Expect.same("off does not do", x.least(), NONE);
                x.fix(1, day, shift);
                Expect.same("any nurse does", x.least(), 0);
            }
        }
        WardRoster x = wardOf(1);
        x.need(0, EARLY, 1);
        x.need(0, LATE, 1);
        x.need(0, NIGHT, 1);
        Expect.same("three shifts for three nurses", x.least(), 0);
        x.need(0, NIGHT, 2);
        Expect.same("four nurses needed", x.least(), NONE);
    }

    private static void rosterNeedsALineOfEachNurse() {
        for (int nurse = 0; nurse < 3; nurse++) {
            WardRoster x = wardOf(2);
            x.contract(nurse, 65535, 4);
            Expect.same("nurse " + nurse + " has no line", x.least(), NONE);
            Expect.same("the others have lines", x.lines((nurse + 1) % 3), 16);
        }
    }

    private static void penaltyHasEachDaysCost() {
        WardRoster x = wardOf(6);
        int[] line = {0, EARLY, LATE, NIGHT, 0, EARLY};
        fixAll(x, 1, line);
        int sum = 0;
        for (int day = 0; day < 6; day++) {
            x.cost(1, day, line[day], 10 + day);
            x.cost(1, day, (line[day] + 1) % 4, 99);
            sum += 10 + day;
            Expect.same("costs up to day " + day, x.line(1), sum);
        }
    }

    private static void penaltyHasEachPairsCost() {
        WardRoster x = wardOf(4);
        fixAll(x, 0, EARLY, LATE, EARLY, LATE);
        x.pair(0, EARLY, LATE, 30);
        Expect.same("a pair that is there twice", x.line(0), 60);
        x.pair(0, LATE, EARLY, 5);
        Expect.same("the pair between", x.line(0), 65);
        x.pair(0, 0, EARLY, 7);
        Expect.same("the pair of off before day 0", x.line(0), 72);
        Expect.same("the roster's penalty", x.least(), 72);
        x.before(0, LATE, 1);
        Expect.same("no line behind one more day", x.line(0), NONE);
        x.fix(0, 3, 0);
        x.pair(0, EARLY, 0, 2);
        Expect.same("the pair of late before day 0", x.line(0), 5 + 30 + 5 + 2);
        Expect.same("the roster's penalty with it", x.least(), 5 + 30 + 5 + 2);
    }

    private static void penaltyHasNoPairBehindTheLastDay() {
        WardRoster x = wardOf(1);
        x.fix(0, 0, NIGHT);
        for (int shift = 0; shift < 4; shift++) {
            x.pair(0, NIGHT, shift, 50);
        }
        Expect.same("nothing comes behind", x.line(0), 0);
        x.pair(0, 0, NIGHT, 1);
        Expect.same("off comes before", x.line(0), 1);
    }

    private static void penaltyIsOfAllNurses() {
        WardRoster x = wardOf(1);
        for (int nurse = 0; nurse < 3; nurse++) {
            for (int shift = 0; shift < 4; shift++) {
                x.cost(nurse, 0, shift, nurse == 0 ? 1 : 10 * nurse);
            }
        }
        Expect.same("three lines together", x.least(), 31);
        Expect.same("adopted", x.adopt(), 31);
    }

    private static void nursesGoByTheirNumbers() {
        WardRoster x = wardOf(2);
        x.need(0, EARLY, 1);
        Expect.same("on one day the last nurse", x.best(2, 0), EARLY);
        x.fix(2, 0, 0);
        Expect.same("then the one before", x.best(1, 0), EARLY);
        Expect.same("and not the first", x.best(0, 0), 0);
    }

    private static void earlierDaysGoFirst() {
        WardRoster x = wardOf(2);
        x.contract(0, 0, 1);
        x.cost(0, 0, 0, 1);
        x.cost(0, 1, 0, 1);
        Expect.same("off or work for the same penalty", x.line(0), 1);
        Expect.same("day 0 is off", x.best(0, 0), 0);
        Expect.same("so day 1 is work", x.best(0, 1), EARLY);
    }

    /** Nurse 1 can be late on day 1 only behind work; else nurse 0 is, a place further on. */
    private static void daysGoBeforeNurses() {
        WardRoster x = wardOf(2);
        x.fix(2, 0, 0);
        x.fix(2, 1, 0);
        x.fix(0, 0, 0);
        x.need(1, LATE, 1);
        x.contract(1, bit(0, LATE), 4);
        Expect.same("day 0 of nurse 1 is off", x.best(1, 0), 0);
        Expect.same("so day 1 of nurse 0 is late", x.best(0, 1), LATE);
        Expect.same("and day 1 of nurse 1 is off", x.best(1, 1), 0);
    }

    private static void lesserShiftIsBefore() {
        for (int shift = 0; shift < 4; shift++) {
            WardRoster x = wardOf(1);
            for (int lesser = 0; lesser < shift; lesser++) {
                x.cost(0, 0, lesser, 1);
            }
            Expect.same("the least shift of those that cost nothing", x.best(0, 0), shift);
        }
    }

    private static void lessPenaltyGoesBeforeTheOrder() {
        WardRoster x = wardOf(6);
        x.cost(2, 5, 0, 1);
        Expect.same("the last place is worth it", x.best(2, 5), EARLY);
        Expect.same("the penalty", x.least(), 0);
        x.cost(0, 0, 0, 1);
        Expect.same("so is the first place", x.best(0, 0), EARLY);
        x.cost(0, 0, EARLY, 1);
        x.cost(0, 0, LATE, 1);
        Expect.same("the one shift that costs nothing", x.best(0, 0), NIGHT);
        x.cost(0, 0, NIGHT, 1);
        Expect.same("not for the same penalty", x.best(0, 0), 0);
    }

    /** A priced line shows in the prices: off and night, or late and off, for the same weight. */
    private static void linesGoByDays() {
        WardRoster x = wardOf(2);
        x.need(0, LATE, 3);
        x.need(1, NIGHT, 3);
        for (int nurse = 0; nurse < 3; nurse++) {
            x.contract(nurse, 0, 1);
        }
        x.raise(1);
        Expect.same("late", x.price(0, LATE), 48);
        Expect.same("night", x.price(1, NIGHT), 48);
        x.raise(1);
        Expect.same("nobody has been late", x.price(0, LATE), 48 + 24);
        Expect.same("all have been at night", x.price(1, NIGHT), 48);
    }
}
