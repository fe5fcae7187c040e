/** Promises 45 and 46: scores of sensors, and outliers. */
public final class ScoresTest {
    private static final Check CHECK = new Check("ScoresTest");
    private static final int LOW = Integer.MIN_VALUE;
    private static final int HIGH = Integer.MAX_VALUE;

    public static void main(String[] args) {
        scoreErrors();
        scores();
        scoreWithoutScatter();
        scoreRoundsEachClass();
        greatestScore();
        scoreUsesFeatures();
        outliers();
        outlierAcrossDrift();
        CHECK.end();
    }

    private static SensorArray withClasses(int count) {
        SensorArray x = new SensorArray();
        for (int i = 0; i < count; i++) {
            x.addClass();
        }
        return x;
    }

    private static void sample(SensorArray x, int label, int a, int b) {
        x.measure(50, a, b, 0, 0, 0);
        x.addSample(label);
    }

    private static void scoreErrors() {
        SensorArray x = withClasses(1);
        CHECK.due("sensorScore(-1)", x.sensorScore(-1), -2);
        CHECK.due("sensorScore(2)", x.sensorScore(2), -2);
        CHECK.due("sensorScore(LOW)", x.sensorScore(LOW), -2);
        CHECK.due("sensorScore(HIGH)", x.sensorScore(HIGH), -2);
        CHECK.due("sensorScore(0) without samples", x.sensorScore(0), -1);
        x.measure(50, 1, 1, 0, 0, 0);
        CHECK.due("sensorScore(1) without samples", x.sensorScore(1), -1);
        CHECK.due("sensorScore(1) without classes", new SensorArray().sensorScore(1), -1);
    }

    private static void scores() {
        SensorArray x = withClasses(3);
        sample(x, 0, 10, 5);
        sample(x, 0, 20, 5);
        sample(x, 2, 40, 5);
        sample(x, 2, 41, 6);
        sample(x, 2, 45, 9);
        // Sensor 0: w = 50 + 14 (of 42 / 3); N = 5, Q = 5806, T = 156: 4694 / 5 = 938, b = 874.
        CHECK.due("sensorScore(0): 874000 / 64", x.sensorScore(0), 13656);
        // Sensor 1: w = 0 + 8 (of 26 / 3); Q = 192, T = 30: 60 / 5 = 12, b = 4.
        CHECK.due("sensorScore(1): 4000 / 8", x.sensorScore(1), 500);
        x.removeSample(2, 0);
        x.removeSample(2, 0);
        x.removeSample(2, 0);
        CHECK.due("sensorScore(0) of one class: b = 0", x.sensorScore(0), 0);
        x.measure(50, 0, 0, 0, 0, 0);
        CHECK.due("sensorScore(0): the current one does not matter", x.sensorScore(0), 0);
    }

    private static void scoreWithoutScatter() {
        SensorArray x = withClasses(2);
        sample(x, 0, 7, 7);
        CHECK.due("sensorScore(0) of one sample", x.sensorScore(0), 0);
        sample(x, 1, 7, 9);
        CHECK.due("sensorScore(0): w = 0, b = 0", x.sensorScore(0), 0);
        CHECK.due("sensorScore(1): w = 0, b = 2", x.sensorScore(1), 1000000);
        sample(x, 1, 7, 9);
        CHECK.due("sensorScore(1): w = 0, b = 2 (of 8 / 3)", x.sensorScore(1), 1000000);
        SensorArray one = withClasses(2);
        sample(one, 0, 7, 8);
        sample(one, 1, 8, 8);
        sample(one, 1, 8, 8);
        CHECK.due("sensorScore(0): w = 0, b = 0 (of 2 / 3)", one.sensorScore(0), 0);
        sample(one, 0, 7, 8);
        CHECK.due("sensorScore(0): w = 0, b = 1", one.sensorScore(0), 1000000);
    }

    /** 1 and 2 scatter by 0.5: 0 in each class, but more over all. */
    private static void scoreRoundsEachClass() {
        SensorArray x = withClasses(4);
        for (int label = 0; label < 4; label++) {
            sample(x, label, 1, 0);
            sample(x, label, 2, 0);
        }
        CHECK.due("sensorScore(0): w = 0, b = 2", x.sensorScore(0), 1000000);
    }

    private static void greatestScore() {
        SensorArray x = withClasses(8);
        for (int i = 0; i < 32; i++) {
            sample(x, i / 8, 0, 0);
            sample(x, 4 + i / 8, 2000, 10);
        }
        x.removeSample(0, 0);
        sample(x, 0, 2, 0);
        // Q = 32 * 4000000 + 4, T = 64002: 4095872252 / 64 = 63998003; w = 28 / 8 = 3, b = 63998000.
        CHECK.due("sensorScore(0), at most 2000000000", x.sensorScore(0), 2000000000);
        x.removeSample(0, 7);
        sample(x, 0, 10, 0);
        // Q = 128000100, T = 64010: 4094726300 / 64 = 63980098; w = 700 / 8 = 87, b = 63980011.
        CHECK.due("sensorScore(0): 63980011000 / 87", x.sensorScore(0), 735402425);
    }

    private static void scoreUsesFeatures() {
        SensorArray x = withClasses(1);
        x.measure(0, 100, 0, 0, 0, 0);
        x.addCalibration();
        x.addSample(0);
        x.measure(100, 200, 0, 0, 0, 0);
        x.addCalibration();
        x.addSample(0);
        x.addClass();
        sample(x, 1, 170, 0);
        CHECK.due("sensorScore(0): humidity explains the scatter", x.sensorScore(0), 1000000);
        x.useHumidity(false);
        // w = 5000; Q = 78900, T = 470: 15800 / 3 = 5266, b = 266.
        CHECK.due("sensorScore(0): 266000 / 5000", x.sensorScore(0), 53);
        x.setBaseline(0, 500);
        // w = 20000; Q = 315600, T = 940: 63200 / 3 = 21066, b = 1066.
        CHECK.due("sensorScore(0): 1066000 / 20000", x.sensorScore(0), 53);
    }

    private static void outliers() {
        SensorArray x = withClasses(2);
        CHECK.due("outlier(2)", x.outlier(2), -2);
        CHECK.due("outlier(-1)", x.outlier(-1), -2);
        CHECK.due("outlier(LOW)", x.outlier(LOW), -2);
        CHECK.due("outlier(HIGH)", x.outlier(HIGH), -2);
        CHECK.due("outlier(0): empty", x.outlier(0), -1);
        sample(x, 1, 100, 0);
        CHECK.due("outlier(1): the only one", x.outlier(1), 0);
        sample(x, 1, 120, 0);
        CHECK.due("outlier(1): equal, the lowest", x.outlier(1), 0);
        sample(x, 1, 130, 0);
        CHECK.due("outlier(1): 100 of mean 116", x.outlier(1), 0);
        sample(x, 1, 119, 90);
        CHECK.due("outlier(1): the one with 90", x.outlier(1), 3);
        x.removeSample(1, 0);
        CHECK.due("outlier(1): it is number 2 now", x.outlier(1), 2);
        x.removeSample(1, 2);
        x.measure(50, 9999, 9999, 0, 0, 0);
        CHECK.due("outlier(1): equal, the lowest", x.outlier(1), 0);
    }

    private static void outlierAcrossDrift() {
        SensorArray x = withClasses(1);
        sample(x, 0, 100, 100);
        sample(x, 0, 100, 130);
        sample(x, 0, 400, 110);
        CHECK.due("outlier(0)", x.outlier(0), 2);
        x.addReference(0);
        x.measure(50, 500, 110, 0, 0, 0);
        x.addReference(1);
        CHECK.due("outlier(0) across drift", x.outlier(0), 1);
        x.useDrift(false);
        CHECK.due("outlier(0), switched off", x.outlier(0), 2);
    }
}
