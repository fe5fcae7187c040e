/** Promises 12 to 17: references, drift components, the position along the drift, predictions. */
public final class DriftTest {
    private static final Check CHECK = new Check("DriftTest");
    private static final int LOW = Integer.MIN_VALUE;
    private static final int HIGH = Integer.MAX_VALUE;

    public static void main(String[] args) {
        addReferences();
        capacity();
        removeReferences();
        components();
        componentsTruncate();
        componentsUseFeatures();
        positions();
        switching();
        predictions();
        steepPredictions();
        CHECK.end();
    }

    private static void addReferences() {
        SensorArray x = new SensorArray();
        CHECK.due("addReference(5) without a measurement", x.addReference(5), -5);
        CHECK.due("addReference(-1) without a measurement", x.addReference(-1), -5);
        x.measure(50, 1, 1, 0, 0, 0);
        CHECK.due("addReference(-1)", x.addReference(-1), -3);
        CHECK.due("addReference(1000)", x.addReference(1000), -3);
        CHECK.due("addReference(LOW)", x.addReference(LOW), -3);
        CHECK.due("addReference(HIGH)", x.addReference(HIGH), -3);
        CHECK.due("addReference(0)", x.addReference(0), 1);
        CHECK.due("addReference(0) again", x.addReference(0), -3);
        CHECK.due("addReference(7)", x.addReference(7), 2);
        CHECK.due("addReference(6)", x.addReference(6), -3);
        CHECK.due("addReference(8)", x.addReference(8), 3);
        CHECK.due("addReference(1000)", x.addReference(1000), -3);
        CHECK.due("addReference(999)", x.addReference(999), 4);
        CHECK.due("addReference(999) again", x.addReference(999), -3);
    }

    private static void capacity() {
        SensorArray x = new SensorArray();
        for (int i = 1; i <= 10; i++) {
            x.measure(50, 10 * i, 0, 0, 0, 0);
            CHECK.due("addReference " + i, x.addReference(10 * i), i);
        }
        x.measure(50, 0, 900, 0, 0, 0);
        CHECK.due("addReference(101), the eleventh", x.addReference(101), -4);
        CHECK.due("addReference(100): the time comes before the capacity", x.addReference(100), -3);
        CHECK.due("addReference(1000): the range comes before the capacity", x.addReference(1000), -3);
        CHECK.due("driftComponent(0) of ten", x.driftComponent(0), 2000);
        CHECK.due("driftComponent(1) of ten", x.driftComponent(1), 1000);
        CHECK.due("predictedReference(0, 999)", x.predictedReference(0, 999), 10000999);
        CHECK.due("removeReference()", x.removeReference(), 9);
        CHECK.due("addReference(90)", x.addReference(90), -3);
        CHECK.due("addReference(91)", x.addReference(91), 10);
        CHECK.due("addReference(92)", x.addReference(92), -4);
    }

    private static void removeReferences() {
        SensorArray x = new SensorArray();
        CHECK.due("removeReference() without one", x.removeReference(), -2);
        x.measure(50, 100, 0, 0, 0, 0);
        x.addReference(0);
        x.measure(50, 110, 0, 0, 0, 0);
        x.addReference(10);
        x.measure(50, 0, 0, 0, 0, 0);
        x.addReference(20);
        CHECK.due("driftComponent(0)", x.driftComponent(0), 0);
        CHECK.due("removeReference()", x.removeReference(), 2);
        CHECK.due("driftComponent(0): the latest is gone", x.driftComponent(0), 2000);
        CHECK.due("predictedReference(0, 20)", x.predictedReference(0, 20), 10000120);
        CHECK.due("removeReference()", x.removeReference(), 1);
        CHECK.due("driftComponent(0) of one", x.driftComponent(0), 1000);
        CHECK.due("removeReference()", x.removeReference(), 0);
        CHECK.due("removeReference() without one", x.removeReference(), -2);
        CHECK.due("addReference(0): earlier times are free again", x.addReference(0), 1);
    }

    private static void components() {
        SensorArray x = new SensorArray();
        x.reset(4);
        CHECK.due("driftComponent(-1)", x.driftComponent(-1), -2);
        CHECK.due("driftComponent(4)", x.driftComponent(4), -2);
        CHECK.due("driftComponent(LOW)", x.driftComponent(LOW), -2);
        CHECK.due("driftComponent(HIGH)", x.driftComponent(HIGH), -2);
        CHECK.due("driftComponent(3) without references", x.driftComponent(3), 1000);
        x.measure(50, 500, 500, 500, 500, 0);
        x.addReference(3);
        CHECK.due("driftComponent(3) of one reference", x.driftComponent(3), 1000);
        x.addReference(9);
        CHECK.due("driftComponent(3) without a change", x.driftComponent(3), 1000);
        x.removeReference();
        x.measure(50, 520, 100, 500, 400, 0);
        x.addReference(9);
        CHECK.due("driftComponent(0): 20 / 400", x.driftComponent(0), 1050);
        CHECK.due("driftComponent(1): -400 / 400", x.driftComponent(1), 0);
        CHECK.due("driftComponent(2): 0", x.driftComponent(2), 1000);
        CHECK.due("driftComponent(3): -100 / 400", x.driftComponent(3), 750);
        x.useDrift(false);
        CHECK.due("driftComponent(1), switched off", x.driftComponent(1), 0);
    }

    private static void componentsTruncate() {
        SensorArray x = new SensorArray();
        x.reset(5);
        x.measure(50, 1000, 1000, 1000, 1000, 1000);
        x.addReference(0);
        x.measure(50, 1003, 998, 1002, 999, 1000);
        x.addReference(1);
        CHECK.due("driftComponent(0): 3 / 3", x.driftComponent(0), 2000);
        CHECK.due("driftComponent(1): -2 / 3", x.driftComponent(1), 334);
        CHECK.due("driftComponent(2): 2 / 3", x.driftComponent(2), 1666);
        CHECK.due("driftComponent(3): -1 / 3", x.driftComponent(3), 667);
        x.removeReference();
        x.measure(50, 1, 1001, 999, 1000, 1000);
        x.setBaseline(0, 500);
        x.addReference(1);
        CHECK.due("driftComponent(0): down by 1998", x.driftComponent(0), 0);
        CHECK.due("driftComponent(1): 1 / 1998, truncated", x.driftComponent(1), 1000);
        CHECK.due("driftComponent(2): -1 / 1998, truncated", x.driftComponent(2), 1000);
    }

    private static void componentsUseFeatures() {
        SensorArray x = new SensorArray();
        x.measure(0, 100, 300, 0, 0, 0);
        x.addCalibration();
        x.addReference(0);
        x.measure(100, 200, 290, 0, 0, 0);
        x.addCalibration();
        x.addReference(1);
        CHECK.due("driftComponent(0): humidity explains it all", x.driftComponent(0), 1000);
        CHECK.due("driftPosition(): no drift", x.driftPosition(), -1);
        x.useHumidity(false);
        CHECK.due("driftComponent(0) without the correction", x.driftComponent(0), 2000);
        CHECK.due("driftComponent(1) without the correction", x.driftComponent(1), 900);
        x.setBaseline(1, 100);
        CHECK.due("driftComponent(1): at most 2000 in both", x.driftComponent(1), 1000);
    }

    /** The first reference is (600, 500), the drift vector (1000, -500). */
    private static void positions() {
        SensorArray x = new SensorArray();
        CHECK.due("driftPosition() without a measurement", x.driftPosition(), -5);
        x.measure(50, 600, 500, 0, 0, 0);
        CHECK.due("driftPosition() without references", x.driftPosition(), -1);
        x.addReference(100);
        CHECK.due("driftPosition() with one reference", x.driftPosition(), -1);
        x.measure(50, 620, 490, 0, 0, 0);
        x.addReference(200);
        CHECK.due("driftComponent(1)", x.driftComponent(1), 500);
        CHECK.due("driftPosition(): 25000 / 1250000", x.driftPosition(), 1000020);
        x.measure(50, 600, 500, 0, 0, 0);
        CHECK.due("driftPosition() of the first", x.driftPosition(), 1000000);
        x.measure(50, 601, 500, 0, 0, 0);
        CHECK.due("driftPosition(): 0.8", x.driftPosition(), 1000000);
        x.measure(50, 599, 500, 0, 0, 0);
        CHECK.due("driftPosition(): -0.8", x.driftPosition(), 999999);
        x.measure(50, 600, 1100, 0, 0, 0);
        CHECK.due("driftPosition(): -240", x.driftPosition(), 999760);
        x.useDrift(false);
        CHECK.due("driftPosition(), switched off", x.driftPosition(), 999760);
        x.setBaseline(0, 500);
        // Now the first reference is (1200, 500), the drift vector (1000, -250): -150000000 / 1062500
        CHECK.due("driftPosition() right after a new baseline", x.driftPosition(), 999858);
        x.removeReference();
        CHECK.due("driftPosition() right after a removal", x.driftPosition(), -1);
    }

    private static void switching() {
        SensorArray x = new SensorArray();
        CHECK.due("useDrift(true) at first", x.useDrift(true), 1);
        CHECK.due("useDrift(false)", x.useDrift(false), 1);
        CHECK.due("useDrift(false) again", x.useDrift(false), 0);
        x.addClass();
        x.measure(50, 100, 100, 0, 0, 0);
        x.addSample(0);
        x.addReference(0);
        x.measure(50, 200, 110, 0, 0, 0);
        x.addReference(10);
        x.measure(50, 300, 105, 0, 0, 0);
        CHECK.due("distance(0), off", x.distance(0), 40025);
        CHECK.due("useDrift(true)", x.useDrift(true), 0);
        // u = (200, 5), d = (1000, 100): (40025 * 1010000 - 200500 * 200500) / 1010000
        CHECK.due("distance(0), on", x.distance(0), 222);
        CHECK.due("useHumidity is another switch", x.useHumidity(true), 1);
    }

    private static void predictions() {
        SensorArray x = new SensorArray();
        CHECK.due("predictedReference(-1, 0)", x.predictedReference(-1, 0), -2);
        CHECK.due("predictedReference(2, 1000)", x.predictedReference(2, 1000), -2);
        CHECK.due("predictedReference(0, -1)", x.predictedReference(0, -1), -3);
        CHECK.due("predictedReference(0, 1000)", x.predictedReference(0, 1000), -3);
        CHECK.due("predictedReference(0, LOW)", x.predictedReference(0, LOW), -3);
        CHECK.due("predictedReference(0, HIGH)", x.predictedReference(0, HIGH), -3);
        CHECK.due("predictedReference(0, 0)", x.predictedReference(0, 0), -1);
        x.measure(50, 10, 100, 0, 0, 0);
        x.addReference(1);
        CHECK.due("predictedReference(0, 0) of one", x.predictedReference(0, 0), -1);
        x.measure(50, 11, 98, 0, 0, 0);
        x.addReference(3);
        CHECK.due("predictedReference(0, 0): 9.5", x.predictedReference(0, 0), 10000009);
        CHECK.due("predictedReference(0, 1): 10", x.predictedReference(0, 1), 10000010);
        CHECK.due("predictedReference(1, 999): -898", x.predictedReference(1, 999), 9999102);
        x.measure(50, 15, 98, 0, 0, 0);
        x.addReference(4);
        // t 1, 3, 4, f 10, 11, 15: g = 3 * 103 - 8 * 36 = 21, stt = 3 * 26 - 64 = 14;
        // at 0: (14 * 36 - 21 * 8) / 42 = 8; at 2: (504 - 42) / 42 = 11; at 7: (504 + 273) / 42 = 18.5
        CHECK.due("predictedReference(0, 0) of three", x.predictedReference(0, 0), 10000008);
        CHECK.due("predictedReference(0, 2) of three", x.predictedReference(0, 2), 10000011);
        CHECK.due("predictedReference(0, 7) of three", x.predictedReference(0, 7), 10000018);
        x.useDrift(false);
        CHECK.due("predictedReference(0, 7), switched off", x.predictedReference(0, 7), 10000018);
    }

    /** The features jump from -4000 to 4000 and back within one unit of time. */
    private static void steepPredictions() {
        SensorArray x = new SensorArray();
        x.measure(50, 0, 2000, 0, 0, 0);
        x.addCalibration();
        x.measure(51, 2000, 0, 0, 0, 0);
        x.addCalibration();
        x.measure(0, 0, 0, 0, 0, 0);
        x.addReference(998);
        x.measure(100, 0, 0, 0, 0, 0);
        x.addReference(999);
        CHECK.due("predictedReference(0, 0): 4000 + 998 * 8000", x.predictedReference(0, 0), 17988000);
        CHECK.due("predictedReference(1, 0): -4000 - 998 * 8000", x.predictedReference(1, 0), 2012000);
        CHECK.due("driftComponent(0)", x.driftComponent(0), 0);
        CHECK.due("driftComponent(1)", x.driftComponent(1), 2000);
        CHECK.due("driftPosition(): 8", x.driftPosition(), 1008000);
    }
}
