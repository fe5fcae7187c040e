/** Promises 1 to 7: a new object, reset, baselines, measurements, ratios and features. */
public final class SensorsTest {
    private static final Check CHECK = new Check("SensorsTest");
    private static final int LOW = Integer.MIN_VALUE;
    private static final int HIGH = Integer.MAX_VALUE;

    public static void main(String[] args) {
        newObject();
        resetRange();
        resetForgets();
        baselines();
        measurements();
        readingsOfMissingSensors();
        ratios();
        features();
        featureLimits();
        CHECK.end();
    }

    /** Asks for all that a new object with this many sensors answers; leaves the object so. */
    private static void isNew(String when, SensorArray x, int sensors) {
        CHECK.due(when + ": sensorCount()", x.sensorCount(), sensors);
        CHECK.due(when + ": classCount()", x.classCount(), 0);
        CHECK.due(when + ": sampleCount(0)", x.sampleCount(0), -2);
        CHECK.due(when + ": removeCalibration()", x.removeCalibration(), -2);
        CHECK.due(when + ": humiditySlope(0)", x.humiditySlope(0), -1);
        CHECK.due(when + ": removeReference()", x.removeReference(), -2);
        CHECK.due(when + ": predictedReference(0, 0)", x.predictedReference(0, 0), -1);
        CHECK.due(when + ": nearestClass()", x.nearestClass(), -5);
        CHECK.due(when + ": useHumidity(true)", x.useHumidity(true), 1);
        CHECK.due(when + ": useDrift(true)", x.useDrift(true), 1);
        CHECK.due(when + ": setMargin(50)", x.setMargin(50), 50);
        CHECK.due(when + ": setSlack(0)", x.setSlack(0), 0);
        for (int k = 0; k < sensors; k++) {
            CHECK.due(when + ": setBaseline(k, 1000)", x.setBaseline(k, 1000), 1000);
            CHECK.due(when + ": ratio(k)", x.ratio(k), -5);
            CHECK.due(when + ": driftComponent(k)", x.driftComponent(k), 1000);
        }
        CHECK.due(when + ": ratio(sensors)", x.ratio(sensors), -2);
    }

    private static void newObject() {
        isNew("new", new SensorArray(), 2);
    }

    private static void resetRange() {
        SensorArray x = new SensorArray();
        for (int sensors = 2; sensors <= 5; sensors++) {
            CHECK.due("reset(" + sensors + ")", x.reset(sensors), sensors);
            CHECK.due("sensorCount()", x.sensorCount(), sensors);
        }
        x.reset(3);
        x.addClass();
        x.setMargin(7);
        x.measure(50, 1, 2, 3, 0, 0);
        for (int sensors : new int[] {LOW, -1, 0, 1, 6, 7, HIGH}) {
            CHECK.due("reset(" + sensors + ")", x.reset(sensors), -3);
        }
        CHECK.due("sensorCount() after a refused reset", x.sensorCount(), 3);
        CHECK.due("classCount() after a refused reset", x.classCount(), 1);
        CHECK.due("ratio(2) after a refused reset", x.ratio(2), 3);
        CHECK.due("setMargin(7) after a refused reset", x.setMargin(7), 7);
    }

    private static void resetForgets() {
        SensorArray x = new SensorArray();
        for (int sensors = 5; sensors >= 2; sensors--) {
            x.addClass();
            x.addClass();
            for (int k = 0; k < 5; k++) {
                x.setBaseline(k, 500 + k);
            }
            x.measure(10, 5, 6, x.sensorCount() > 2 ? 9 : 0, 0, 0);
            x.addSample(0);
            x.addCalibration();
            x.addReference(900);
            x.measure(90, 50, 6, 0, 0, 0);
            x.addSample(1);
            x.addCalibration();
            x.addReference(999);
            x.useHumidity(false);
            x.useDrift(false);
            x.setMargin(400);
            x.setSlack(1000000);
            CHECK.due("reset(" + sensors + ")", x.reset(sensors), sensors);
            isNew("after reset(" + sensors + ")", x, sensors);
            CHECK.due("addClass() after reset", x.addClass(), 0);
            CHECK.due("sampleCount(0) after reset", x.sampleCount(0), 0);
            CHECK.due("recall(0, 0) after reset", x.recall(0, 0), -2);
            x.measure(0, 300, 0, 0, 0, 0);
            CHECK.due("feature(0) after reset", x.feature(0), 10300);
            CHECK.due("addReference(0) after reset", x.addReference(0), 1);
            CHECK.due("addCalibration() after reset", x.addCalibration(), 1);
        }
        for (int label = 0; label < 8; label++) {
            x.addClass();
            x.addSample(label);
        }
        CHECK.due("sampleCount(7)", x.sampleCount(7), 1);
        x.reset(2);
        for (int label = 0; label < 8; label++) {
            x.addClass();
            CHECK.due("sampleCount(" + label + ") after reset", x.sampleCount(label), 0);
        }
        // The same number of sensors is no exception.
        x.reset(2);
        isNew("after reset(2)", x, 2);
    }

    private static void baselines() {
        SensorArray x = new SensorArray();
        x.reset(3);
        CHECK.due("setBaseline(0, 100)", x.setBaseline(0, 100), 1000);
        CHECK.due("setBaseline(0, 9999)", x.setBaseline(0, 9999), 100);
        CHECK.due("setBaseline(2, 700)", x.setBaseline(2, 700), 1000);
        CHECK.due("setBaseline(0, 99)", x.setBaseline(0, 99), -3);
        CHECK.due("setBaseline(0, 10000)", x.setBaseline(0, 10000), -3);
        CHECK.due("setBaseline(0, 0)", x.setBaseline(0, 0), -3);
        CHECK.due("setBaseline(0, LOW)", x.setBaseline(0, LOW), -3);
        CHECK.due("setBaseline(0, HIGH)", x.setBaseline(0, HIGH), -3);
        CHECK.due("setBaseline(3, 500)", x.setBaseline(3, 500), -2);
        CHECK.due("setBaseline(-1, 500)", x.setBaseline(-1, 500), -2);
        CHECK.due("setBaseline(LOW, 500)", x.setBaseline(LOW, 500), -2);
        CHECK.due("setBaseline(HIGH, 500)", x.setBaseline(HIGH, 500), -2);
        CHECK.due("setBaseline(3, 0), both wrong", x.setBaseline(3, 0), -2);
        CHECK.due("setBaseline(0, 800) after refusals", x.setBaseline(0, 800), 9999);
        CHECK.due("setBaseline(1, 800)", x.setBaseline(1, 800), 1000);
        CHECK.due("setBaseline(2, 800)", x.setBaseline(2, 800), 700);
    }

    private static void measurements() {
        SensorArray x = new SensorArray();
        x.reset(5);
        CHECK.due("measure(0, 0..)", x.measure(0, 0, 0, 0, 0, 0), 0);
        CHECK.due("measure(100, 9999..)", x.measure(100, 9999, 9999, 9999, 9999, 9999), 49995);
        CHECK.due("measure(10, 1, 20, 300, 4000, 5)", x.measure(10, 1, 20, 300, 4000, 5), 4326);
        for (int wrong : new int[] {LOW, -1, 10000, HIGH}) {
            CHECK.due("a = " + wrong, x.measure(50, wrong, 0, 0, 0, 0), -3);
            CHECK.due("b = " + wrong, x.measure(50, 0, wrong, 0, 0, 0), -3);
            CHECK.due("c = " + wrong, x.measure(50, 0, 0, wrong, 0, 0), -3);
            CHECK.due("d = " + wrong, x.measure(50, 0, 0, 0, wrong, 0), -3);
            CHECK.due("e = " + wrong, x.measure(50, 0, 0, 0, 0, wrong), -3);
        }
        for (int wrong : new int[] {LOW, -1, 101, HIGH}) {
            CHECK.due("humidity = " + wrong, x.measure(wrong, 0, 0, 0, 0, 0), -3);
        }
        int[] kept = {1, 20, 300, 2000, 5};
        for (int k = 0; k < 5; k++) {
            CHECK.due("ratio(" + k + ") after refusals", x.ratio(k), kept[k]);
        }
        x.addClass();
        x.addSample(0);
        CHECK.due("recall(0, 0): the humidity after refusals", x.recall(0, 0), 10);
    }

    private static void readingsOfMissingSensors() {
        for (int sensors = 2; sensors <= 5; sensors++) {
            SensorArray x = new SensorArray();
            x.reset(sensors);
            String with = " with " + sensors + " sensors";
            CHECK.due("a" + with, x.measure(50, 1, 0, 0, 0, 0), 1);
            CHECK.due("b" + with, x.measure(50, 0, 2, 0, 0, 0), 2);
            CHECK.due("c" + with, x.measure(50, 0, 0, 3, 0, 0), sensors > 2 ? 3 : -3);
            CHECK.due("d" + with, x.measure(50, 0, 0, 0, 4, 0), sensors > 3 ? 4 : -3);
            CHECK.due("e" + with, x.measure(50, 0, 0, 0, 0, 5), sensors > 4 ? 5 : -3);
            CHECK.due("c = -1" + with, x.measure(50, 0, 0, -1, 0, 0), -3);
            CHECK.due("e = 1" + with, x.measure(50, 0, 0, 0, 0, 1), sensors > 4 ? 1 : -3);
            CHECK.due("e = -1" + with, x.measure(50, 0, 0, 0, 0, -1), -3);
        }
    }

    private static void ratios() {
        SensorArray x = new SensorArray();
        CHECK.due("ratio(2) without a measurement", x.ratio(2), -2);
        CHECK.due("ratio(1) without a measurement", x.ratio(1), -5);
        x.measure(0, 2, 1999, 0, 0, 0);
        CHECK.due("ratio(0)", x.ratio(0), 2);
        CHECK.due("ratio(1)", x.ratio(1), 1999);
        CHECK.due("ratio(-1)", x.ratio(-1), -2);
        CHECK.due("ratio(2)", x.ratio(2), -2);
        CHECK.due("ratio(LOW)", x.ratio(LOW), -2);
        CHECK.due("ratio(HIGH)", x.ratio(HIGH), -2);
        x.setBaseline(0, 3000);
        CHECK.due("ratio(0): 2000 / 3000", x.ratio(0), 0);
        x.setBaseline(0, 300);
        CHECK.due("ratio(0): 2000 / 300", x.ratio(0), 6);
        x.setBaseline(1, 999);
        CHECK.due("ratio(1): 1999000 / 999", x.ratio(1), 2000);
        x.setBaseline(1, 9999);
        CHECK.due("ratio(1): 1999000 / 9999", x.ratio(1), 199);
        x.setBaseline(1, 100);
        CHECK.due("ratio(1): 19990, at most 2000", x.ratio(1), 2000);
        x.measure(0, 9999, 200, 0, 0, 0);
        x.setBaseline(0, 9999);
        CHECK.due("ratio(0): 9999 / 9999", x.ratio(0), 1000);
        x.setBaseline(0, 100);
        CHECK.due("ratio(0): 9999 / 100", x.ratio(0), 2000);
        CHECK.due("ratio(1): 200 / 100", x.ratio(1), 2000);
        x.measure(0, 9999, 199, 0, 0, 0);
        CHECK.due("ratio(1): 199 / 100", x.ratio(1), 1990);
        CHECK.due("ratio(1) has no humidity correction", withCorrection().ratio(1), 300);
    }

    /** Slope 1 for sensor 0, -1/3 for sensor 1; the current humidity is 49. */
    private static SensorArray withCorrection() {
        SensorArray x = new SensorArray();
        x.measure(50, 100, 300, 0, 0, 0);
        x.addCalibration();
        x.measure(53, 103, 299, 0, 0, 0);
        x.addCalibration();
        x.measure(49, 200, 300, 0, 0, 0);
        return x;
    }

    private static void features() {
        SensorArray none = new SensorArray();
        CHECK.due("feature(2) without a measurement", none.feature(2), -2);
        CHECK.due("feature(0) without a measurement", none.feature(0), -5);
        SensorArray x = withCorrection();
        CHECK.due("feature(-1)", x.feature(-1), -2);
        CHECK.due("feature(2)", x.feature(2), -2);
        CHECK.due("feature(0): 200 + 1", x.feature(0), 10201);
        CHECK.due("feature(1): 300 - floor(1/3)", x.feature(1), 10300);
        x.measure(51, 200, 300, 0, 0, 0);
        CHECK.due("feature(0): 200 - 1", x.feature(0), 10199);
        CHECK.due("feature(1): 300 - floor(-1/3)", x.feature(1), 10301);
        x.measure(53, 0, 0, 0, 0, 0);
        CHECK.due("feature(0): 0 - 3", x.feature(0), 9997);
        CHECK.due("feature(1): 0 + 1", x.feature(1), 10001);
        x.setBaseline(0, 500);
        CHECK.due("feature(0): the baseline doubles the slope", x.feature(0), 9994);
        x.useHumidity(false);
        CHECK.due("feature(0), switched off", x.feature(0), 10000);
    }

    private static void featureLimits() {
        SensorArray x = new SensorArray();
        x.measure(50, 0, 2000, 0, 0, 0);
        x.addCalibration();
        x.measure(51, 2000, 0, 0, 0, 0);
        x.addCalibration();
        x.measure(0, 0, 0, 0, 0, 0);
        CHECK.due("feature(0): 0 + 100000, at most 4000", x.feature(0), 14000);
        CHECK.due("feature(1): 0 - 100000, at least -4000", x.feature(1), 6000);
        x.measure(48, 0, 0, 0, 0, 0);
        CHECK.due("feature(0): 0 + 4000", x.feature(0), 14000);
        CHECK.due("feature(1): 0 - 4000", x.feature(1), 6000);
        x.measure(48, 1, 1, 0, 0, 0);
        CHECK.due("feature(0): 1 + 4000", x.feature(0), 14000);
        CHECK.due("feature(1): 1 - 4000", x.feature(1), 6001);
        x.measure(52, 1, 1, 0, 0, 0);
        CHECK.due("feature(0): 1 - 4000", x.feature(0), 6001);
        CHECK.due("feature(1): 1 + 4000", x.feature(1), 14000);
    }
}
