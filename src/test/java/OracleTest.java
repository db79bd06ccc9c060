import java.util.Random;

/** Long runs of calls, ordinary and wrong ones, on WardRoster and Oracle: all answers are alike. */
public final class OracleTest {
    private static final int CALLS = 512;

    private final Random random;
    private final WardRoster ward = new WardRoster();
    private final Oracle oracle = new Oracle();
    private final int mostCost;
    private final int mostDays;
    private final boolean isMostlyFixed;
    private int calls;

    private OracleTest(long seed) {
        random = new Random(seed);
        int[] mostCosts = {1, 3, 20, 99};
        mostCost = mostCosts[random.nextInt(4)];
        mostDays = 1 + random.nextInt(6);
        isMostlyFixed = random.nextInt(3) == 0;
    }

    public static void main(String[] args) {
        int runs = args.length > 0 ? Integer.parseInt(args[0]) : 60;
        for (int seed = 1; seed <= runs; seed++) {
            new OracleTest(seed).run(seed);
        }
        Expect.end();
    }

    private void run(int seed) {
        call(seed, "open", mostDays);
        furnish(seed);
        while (calls < CALLS) {
            if (random.nextInt(100) < 60) {
                change(seed);
            } else {
                ask(seed);
            }
        }
    }

    private void change(int seed) {
        int kind = random.nextInt(isMostlyFixed ? 30 : 24);
        if (kind == 0) {
            call(seed, "open", nearly(1, mostDays));
            furnish(seed);
        } else if (kind < 3) {
            call(seed, "contract", nurse(), somePairs(), nearly(1, 4));
        } else if (kind < 6) {
            int shift = nearly(0, 3);
            call(seed, "before", nurse(), shift, shift == 0 ? nearly(0, 0) : nearly(1, 4));
        } else if (kind < 11) {
            call(seed, "need", day(), nearly(1, 3), Math.min(nearly(0, 3), nearly(0, 1)));
        } else if (kind < 16) {
            call(seed, "cost", nurse(), day(), nearly(0, 3), cost());
        } else if (kind < 20) {
            call(seed, "pair", nurse(), nearly(0, 3), nearly(0, 3), cost());
        } else {
            call(seed, "fix", nurse(), day(), random.nextInt(5) < 2 ? nearly(0, 3) : -1);
        }
    }

    /** Costs on most places, so that rosters differ, and some needs. */
    private void furnish(int seed) {
        for (int i = 0; i < 8 * oracle.days(); i++) {
            call(seed, "cost", nurse(), day(), nearly(0, 3), cost());
        }
        for (int i = 0; i < 10; i++) {
            call(seed, "pair", nurse(), nearly(0, 3), nearly(0, 3), cost());
        }
        for (int i = 0; i < oracle.days(); i++) {
            call(seed, "need", day(), nearly(1, 3), nearly(0, 1));
        }
    }

    private void ask(int seed) {
        switch (random.nextInt(12)) {
            case 0: call(seed, "days"); break;
            case 1: call(seed, "lines", nurse()); break;
            case 2: call(seed, "line", nurse()); break;
            case 3: call(seed, "least"); break;
            case 4: askOften(seed, "best"); break;
            case 5: case 6: askPrices(seed); break;
            case 7: call(seed, "bound"); break;
            case 8: call(seed, "adopt"); break;
            case 9: call(seed, "repair"); break;
            case 10: askOften(seed, "planned"); break;
            default: call(seed, "check"); break;
        }
    }

    private void askOften(int seed, String name) {
        for (int i = 0; i < 6; i++) {
            call(seed, name, nurse(), day());
        }
    }

    private void askPrices(int seed) {
        for (int i = 0; i < 4; i++) {
            call(seed, "raise", random.nextInt(6) == 0 ? nearly(1, 12) : 1);
            call(seed, "price", day(), nearly(1, 3));
            call(seed, "price", day(), nearly(1, 3));
        }
    }

    private int somePairs() {
        int pairs = random.nextInt(65536) & random.nextInt(65536) & random.nextInt(65536);
        return random.nextInt(40) == 0 ? nearly(0, 65535) : pairs & random.nextInt(65536);
    }

    private int nurse() {
        return nearly(0, 2);
    }

    private int day() {
        return nearly(0, oracle.days() - 1);
    }

    private int cost() {
        return random.nextInt(mostCost + 1) + (random.nextInt(60) == 0 ? 100 : 0);
    }

    /** Now and then a value that is just outside. */
    private int nearly(int lowest, int highest) {
        int kind = random.nextInt(80);
        int inside = lowest + random.nextInt(highest - lowest + 1);
        return kind == 0 ? lowest - 1 : kind == 1 ? highest + 1 : inside;
    }

    /** Nothing is promised of an object after its 512th call, so the run ends there. */
    private void call(int seed, String name, int... values) {
        if (calls == CALLS) {
            return;
        }
        calls++;
        Expect.same("run " + seed + ": " + Face.describe(name, values),
                Face.answer(ward, name, values), Face.answer(oracle, name, values));
    }
}
