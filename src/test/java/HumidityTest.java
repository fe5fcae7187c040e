/** Promises 8 to 11: calibrations, the slope by humidity, and its switch. */
public final class HumidityTest {
    private static final Check CHECK = new Check("HumidityTest");

    public static void main(String[] args) {
        addAndRemove();
        capacity();
        slopes();
        slopeOfManyCalibrations();
        switching();
        calibrationsAreCopies();
        CHECK.end();
    }

    private static void addAndRemove() {
        SensorArray x = new SensorArray();
        CHECK.due("addCalibration() without a measurement", x.addCalibration(), -5);
        CHECK.due("removeCalibration() without one", x.removeCalibration(), -2);
        x.measure(10, 100, 0, 0, 0, 0);
        CHECK.due("addCalibration()", x.addCalibration(), 1);
        CHECK.due("addCalibration() of the same", x.addCalibration(), 2);
        x.measure(20, 200, 0, 0, 0, 0);
        CHECK.due("addCalibration()", x.addCalibration(), 3);
        CHECK.due("humiditySlope(0)", x.humiditySlope(0), 10010000);
        CHECK.due("removeCalibration()", x.removeCalibration(), 2);
        CHECK.due("humiditySlope(0): the latest is gone", x.humiditySlope(0), -1);
        CHECK.due("removeCalibration()", x.removeCalibration(), 1);
        CHECK.due("removeCalibration()", x.removeCalibration(), 0);
        CHECK.due("removeCalibration() without one", x.removeCalibration(), -2);
        CHECK.due("addCalibration() anew", x.addCalibration(), 1);
    }

    private static void capacity() {
        SensorArray x = new SensorArray();
        for (int i = 1; i <= 12; i++) {
            x.measure(i, i, 0, 0, 0, 0);
            CHECK.due("addCalibration() " + i, x.addCalibration(), i);
        }
        x.measure(100, 2000, 0, 0, 0, 0);
        CHECK.due("addCalibration(), the thirteenth", x.addCalibration(), -4);
        CHECK.due("humiditySlope(0) of twelve", x.humiditySlope(0), 10001000);
        CHECK.due("removeCalibration()", x.removeCalibration(), 11);
        CHECK.due("addCalibration() again", x.addCalibration(), 12);
        CHECK.due("addCalibration(), full again", x.addCalibration(), -4);
    }

    private static void slopes() {
        SensorArray x = new SensorArray();
        CHECK.due("humiditySlope(-1)", x.humiditySlope(-1), -2);
        CHECK.due("humiditySlope(2)", x.humiditySlope(2), -2);
        CHECK.due("humiditySlope(1) without calibrations", x.humiditySlope(1), -1);
        x.measure(50, 0, 2000, 0, 0, 0);
        x.addCalibration();
        x.measure(50, 7, 7, 0, 0, 0);
        x.addCalibration();
        CHECK.due("humiditySlope(0): equal humidities", x.humiditySlope(0), -1);
        x.removeCalibration();
        x.measure(51, 2000, 0, 0, 0, 0);
        x.addCalibration();
        CHECK.due("humiditySlope(0): the steepest", x.humiditySlope(0), 12000000);
        CHECK.due("humiditySlope(1): the steepest down", x.humiditySlope(1), 8000000);
        CHECK.due("humiditySlope(2)", x.humiditySlope(2), -2);
        CHECK.due("humiditySlope(MAX)", x.humiditySlope(Integer.MAX_VALUE), -2);
        CHECK.due("humiditySlope(MIN)", x.humiditySlope(Integer.MIN_VALUE), -2);
        x.removeCalibration();
        x.measure(57, 1, 1999, 0, 0, 0);
        x.addCalibration();
        CHECK.due("humiditySlope(0): 1/7", x.humiditySlope(0), 10000142);
        CHECK.due("humiditySlope(1): -1/7, rounded down", x.humiditySlope(1), 9999857);
        x.setBaseline(0, 100);
        CHECK.due("humiditySlope(0): 10/7 with the new baseline", x.humiditySlope(0), 10001428);
        x.useHumidity(false);
        CHECK.due("humiditySlope(0), switched off", x.humiditySlope(0), 10001428);
    }

    /** h 0, 10, 40 and f 5, 30, 10: sxy = 3 * 700 - 50 * 45 = -150, sxx = 3 * 1700 - 2500 = 2600. */
    private static void slopeOfManyCalibrations() {
        SensorArray x = new SensorArray();
        int[][] points = {{0, 5}, {10, 30}, {40, 10}};
        for (int[] point : points) {
            x.measure(point[0], point[1], 0, 0, 0, 0);
            x.addCalibration();
        }
        CHECK.due("humiditySlope(0): -150000 / 2600", x.humiditySlope(0), 9999942);
        x.measure(100, 5, 0, 0, 0, 0);
        CHECK.due("feature(0): 5 - floor(-7500 / 2600)", x.feature(0), 10008);
        x.measure(0, 5, 0, 0, 0, 0);
        CHECK.due("feature(0): 5 - floor(7500 / 2600)", x.feature(0), 10003);
    }

    private static void switching() {
        SensorArray x = new SensorArray();
        CHECK.due("useHumidity(true) at first", x.useHumidity(true), 1);
        CHECK.due("useHumidity(false)", x.useHumidity(false), 1);
        CHECK.due("useHumidity(false) again", x.useHumidity(false), 0);
        x.measure(0, 100, 100, 0, 0, 0);
        x.addCalibration();
        x.measure(100, 200, 100, 0, 0, 0);
        x.addCalibration();
        CHECK.due("feature(0), off", x.feature(0), 10200);
        CHECK.due("useHumidity(true)", x.useHumidity(true), 0);
        CHECK.due("feature(0), on", x.feature(0), 10150);
        CHECK.due("useDrift is another switch", x.useDrift(true), 1);
    }

    private static void calibrationsAreCopies() {
        SensorArray x = new SensorArray();
        x.addClass();
        x.measure(0, 100, 0, 0, 0, 0);
        x.addCalibration();
        x.addSample(0);
        x.measure(100, 300, 0, 0, 0, 0);
        x.addCalibration();
        x.measure(40, 1, 1, 0, 0, 0);
        x.removeSample(0, 0);
        CHECK.due("humiditySlope(0) after other measurements", x.humiditySlope(0), 10002000);
    }
}
