/**
 * All that the calls can tell of an object, as a text: two objects with the same text are in the
 * same state. It takes fewer than 400 calls and leaves the object changed.
 */
final class Readout {
    private static final int NONE = WardRoster.NONE;

    private final WardRoster ward;
    private final int days;
    private final StringBuilder text = new StringBuilder();

    private Readout(WardRoster ward) {
        this.ward = ward;
        days = ward.days();
    }

    static String of(WardRoster ward) {
        Readout readout = new Readout(ward);
        readout.tellAnswers();
        readout.tellRounds();
        readout.tellRepair();
        readout.takeBackSettings();
        readout.tellContracts();
        return readout.text.toString();
    }

    private void tell(String name, int... values) {
        text.append(Face.describe(name, values)).append(' ');
        text.append(Face.answer(ward, name, values)).append('\n');
    }

    private void tellAnswers() {
        tell("days");
        tell("least");
        tell("bound");
        tell("check");
        for (int nurse = 0; nurse < 3; nurse++) {
            tell("lines", nurse);
            tell("line", nurse);
        }
        tellPlaces("best");
        tellPlaces("planned");
        tellPrices();
    }

    private void tellPlaces(String name) {
        for (int place = 0; place < 3 * days; place++) {
            tell(name, place % 3, place / 3);
        }
    }

    private void tellPrices() {
        for (int day = 0; day < days; day++) {
            for (int shift = 1; shift < 4; shift++) {
                tell("price", day, shift);
            }
        }
    }

    /** How far a further round moves the prices tells how many rounds there were. */
    private void tellRounds() {
        tell("raise", 1);
        tell("bound");
        tellPrices();
    }

    private void tellRepair() {
        tell("repair");
        tellPlaces("planned");
    }

    /** A setting is told by the call that sets it to something else. */
    private void takeBackSettings() {
        for (int day = 0; day < days; day++) {
            for (int shift = 1; shift < 4; shift++) {
                tell("need", day, shift, 0);
            }
        }
        for (int nurse = 0; nurse < 3; nurse++) {
            for (int day = 0; day < days; day++) {
                tell("fix", nurse, day, NONE);
                for (int shift = 0; shift < 4; shift++) {
                    tell("cost", nurse, day, shift, 0);
                }
            }
            for (int pair = 0; pair < 16; pair++) {
                tell("pair", nurse, pair / 4, pair % 4, 0);
            }
        }
    }

    /** What is forbidden, the longest and what comes before are told by the lines they leave. */
    private void tellContracts() {
        for (int nurse = 0; nurse < 3; nurse++) {
            tell("lines", nurse);
            for (int a = 0; a < 4 && days > 1; a++) {
                ward.fix(nurse, days - 2, a);
                for (int b = 0; b < 4; b++) {
                    ward.fix(nurse, days - 1, b);
                    tell("lines", nurse);
                }
            }
        }
    }
}
