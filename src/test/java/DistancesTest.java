/** Promises 24 to 33: distances, nearest classes, radius, classification, classes' distances, suspects. */
public final class DistancesTest {
    private static final Check CHECK = new Check("DistancesTest");
    private static final int LOW = Integer.MIN_VALUE;
    private static final int HIGH = Integer.MAX_VALUE;

    public static void main(String[] args) {
        distances();
        distancesWithDrift();
        distancesUseFeatures();
        nearestClasses();
        runnersUp();
        radii();
        radiusOfTheWidestClass();
        margins();
        slacks();
        classifications();
        classDistances();
        widestClassDistance();
        closestPairs();
        suspects();
        suspectsWithDrift();
        CHECK.end();
    }

    /** An object with this many empty classes. */
    private static SensorArray withClasses(int count) {
        SensorArray x = new SensorArray();
        for (int i = 0; i < count; i++) {
            x.addClass();
        }
        return x;
    }

    private static void sample(SensorArray x, int label, int a, int b) {
        x.measure(50, a, b, 0, 0, 0);
        x.addSample(label);
    }

    private static void distances() {
        SensorArray x = withClasses(2);
        CHECK.due("distance(2) without a measurement", x.distance(2), -2);
        CHECK.due("distance(0) without a measurement", x.distance(0), -5);
        x.measure(50, 10, 10, 0, 0, 0);
        CHECK.due("distance(0): empty", x.distance(0), -1);
        CHECK.due("distance(-1)", x.distance(-1), -2);
        CHECK.due("distance(LOW)", x.distance(LOW), -2);
        CHECK.due("distance(HIGH)", x.distance(HIGH), -2);
        sample(x, 1, 10, 10);
        CHECK.due("distance(1): its own mean", x.distance(1), 0);
        sample(x, 1, 20, 30);
        CHECK.due("distance(1): (5, 10)", x.distance(1), 125);
        sample(x, 1, 30, 31);
        // 3 * (30, 31) - (60, 71) = (30, 22): 1384 / 9
        CHECK.due("distance(1) of three, rounded down", x.distance(1), 153);
        x.measure(50, 0, 0, 0, 0, 0);
        CHECK.due("distance(1): 8641 / 9", x.distance(1), 960);
        CHECK.due("distance(0): still empty", x.distance(0), -1);
    }

    /** Drift along (1000, 500): what lies on it has no distance. */
    private static void distancesWithDrift() {
        SensorArray x = withClasses(1);
        x.measure(50, 100, 100, 0, 0, 0);
        x.addReference(0);
        x.addSample(0);
        x.measure(50, 120, 110, 0, 0, 0);
        x.addReference(5);
        CHECK.due("distance(0) along the drift", x.distance(0), 0);
        x.measure(50, 110, 80, 0, 0, 0);
        CHECK.due("distance(0) across the drift", x.distance(0), 500);
        x.measure(50, 103, 100, 0, 0, 0);
        CHECK.due("distance(0): 9 / 5", x.distance(0), 1);
        x.measure(50, 110, 105, 0, 0, 0);
        x.addSample(0);
        x.measure(50, 100, 113, 0, 0, 0);
        // u = 2 * (100, 113) - (210, 205) = (-10, 21): (541 * 1250000 - 500 * 500) / (4 * 1250000)
        CHECK.due("distance(0) of two", x.distance(0), 135);
        x.useDrift(false);
        CHECK.due("distance(0) without drift: 541 / 4", x.distance(0), 135);
        x.measure(50, 110, 80, 0, 0, 0);
        CHECK.due("distance(0) without drift: (10 * 10 + 45 * 45) / 4", x.distance(0), 531);
        x.useDrift(true);
        // ud = 10 * 1000 - 45 * 500 = -12500: (2125 * 1250000 - 12500 * 12500) / (4 * 1250000) = 500
        CHECK.due("distance(0) with drift", x.distance(0), 500);
        x.removeReference();
        CHECK.due("distance(0) with a single reference", x.distance(0), 531);
    }

    private static void distancesUseFeatures() {
        SensorArray x = withClasses(1);
        x.measure(0, 100, 0, 0, 0, 0);
        x.addCalibration();
        x.addSample(0);
        x.measure(100, 200, 0, 0, 0, 0);
        x.addCalibration();
        CHECK.due("distance(0): humidity explains it", x.distance(0), 0);
        x.useHumidity(false);
        CHECK.due("distance(0) of ratios", x.distance(0), 10000);
        x.setBaseline(0, 500);
        CHECK.due("distance(0) with the present baseline", x.distance(0), 40000);
        x.measure(50, 200, 200, 0, 0, 0);
        x.setBaseline(1, 2000);
        CHECK.due("distance(0): 200, 100", x.distance(0), 50000);
    }

    private static void nearestClasses() {
        SensorArray x = withClasses(4);
        CHECK.due("nearestClass() without a measurement", x.nearestClass(), -5);
        x.measure(50, 1, 1, 0, 0, 0);
        CHECK.due("nearestClass(): all empty", x.nearestClass(), -1);
        CHECK.due("nearestClass() without classes", fresh().nearestClass(), -1);
        sample(x, 3, 500, 500);
        x.measure(50, 1, 1, 0, 0, 0);
        CHECK.due("nearestClass(): the only one", x.nearestClass(), 3);
        sample(x, 1, 100, 100);
        sample(x, 2, 120, 100);
        x.measure(50, 109, 100, 0, 0, 0);
        CHECK.due("nearestClass()", x.nearestClass(), 1);
        x.measure(50, 110, 100, 0, 0, 0);
        CHECK.due("nearestClass(): equal, the lowest", x.nearestClass(), 1);
        x.measure(50, 111, 100, 0, 0, 0);
        CHECK.due("nearestClass()", x.nearestClass(), 2);
        x.removeSample(2, 0);
        CHECK.due("nearestClass() when that is empty", x.nearestClass(), 1);
        // The mean counts, not the nearest sample; and distances are rounded before they are compared.
        sample(x, 2, 0, 100);
        sample(x, 2, 221, 100);
        x.measure(50, 105, 100, 0, 0, 0);
        CHECK.due("distance(1)", x.distance(1), 25);
        CHECK.due("distance(2): 5.5 squared", x.distance(2), 30);
        sample(x, 0, 100, 100);
        sample(x, 0, 99, 100);
        x.measure(50, 100, 100, 0, 0, 0);
        CHECK.due("distance(0): 0.5 squared", x.distance(0), 0);
        CHECK.due("distance(1)", x.distance(1), 0);
        CHECK.due("nearestClass(): equal when rounded", x.nearestClass(), 0);
    }

    /** An object with a measurement and nothing else. */
    private static SensorArray fresh() {
        SensorArray x = new SensorArray();
        x.measure(50, 1, 1, 0, 0, 0);
        return x;
    }

    private static void runnersUp() {
        SensorArray x = withClasses(4);
        CHECK.due("runnerUp() without a measurement", x.runnerUp(), -5);
        x.measure(50, 1, 1, 0, 0, 0);
        CHECK.due("runnerUp(): all empty", x.runnerUp(), -1);
        CHECK.due("runnerUp() without classes", fresh().runnerUp(), -1);
        sample(x, 2, 100, 0);
        CHECK.due("runnerUp(): one class", x.runnerUp(), -1);
        sample(x, 0, 200, 0);
        sample(x, 3, 300, 0);
        x.measure(50, 90, 0, 0, 0, 0);
        CHECK.due("runnerUp()", x.runnerUp(), 0);
        x.measure(50, 290, 0, 0, 0, 0);
        CHECK.due("runnerUp()", x.runnerUp(), 0);
        x.measure(50, 199, 0, 0, 0, 0);
        CHECK.due("runnerUp()", x.runnerUp(), 2);
        x.measure(50, 200, 0, 0, 0, 0);
        CHECK.due("runnerUp(): equal, the lowest", x.runnerUp(), 2);
        x.measure(50, 250, 0, 0, 0, 0);
        CHECK.due("nearestClass(): equal", x.nearestClass(), 0);
        CHECK.due("runnerUp(): the other of the equal ones", x.runnerUp(), 3);
    }

    private static void radii() {
        SensorArray x = withClasses(3);
        CHECK.due("radius(3)", x.radius(3), -2);
        CHECK.due("radius(-1)", x.radius(-1), -2);
        CHECK.due("radius(LOW)", x.radius(LOW), -2);
        CHECK.due("radius(HIGH)", x.radius(HIGH), -2);
        CHECK.due("radius(0): empty, without a measurement", x.radius(0), -1);
        sample(x, 1, 100, 100);
        CHECK.due("radius(1) of one sample", x.radius(1), 0);
        sample(x, 1, 110, 100);
        sample(x, 1, 100, 130);
        // sums (310, 330); u = (-10, -30), (20, -30), (-10, 60): 1000, 1300, 3700; r = 411
        CHECK.due("radius(1): 150 * 411 / 100", x.radius(1), 616);
        x.setMargin(0);
        CHECK.due("radius(1), margin 0", x.radius(1), 411);
        x.setSlack(77);
        CHECK.due("radius(1), slack 77", x.radius(1), 488);
        x.setMargin(1);
        CHECK.due("radius(1), margin 1: 415.11 and 77", x.radius(1), 492);
        CHECK.due("radius(2): empty", x.radius(2), -1);
        x.removeSample(1, 2);
        x.setMargin(50);
        x.setSlack(0);
        CHECK.due("radius(1) of two", x.radius(1), 37);
    }

    /** Features of 4000 and -4000 in five sensors: r is 5 * 7000 * 7000, and the radius still an int. */
    private static void radiusOfTheWidestClass() {
        SensorArray x = new SensorArray();
        x.reset(5);
        x.addClass();
        x.measure(50, 0, 0, 0, 0, 0);
        x.addCalibration();
        x.measure(51, 2000, 2000, 2000, 2000, 2000);
        x.addCalibration();
        x.measure(0, 0, 0, 0, 0, 0);
        for (int i = 0; i < 7; i++) {
            x.addSample(0);
        }
        x.measure(100, 0, 0, 0, 0, 0);
        x.addSample(0);
        x.setMargin(400);
        x.setSlack(1000000);
        CHECK.due("distance(0)", x.distance(0), 245000000);
        CHECK.due("radius(0)", x.radius(0), 1226000000);
        CHECK.due("outlier(0)", x.outlier(0), 7);
        x.removeSample(0, 7);
        CHECK.due("distance(0), the greatest there is", x.distance(0), 320000000);
        CHECK.due("radius(0)", x.radius(0), 1000000);
    }

    private static void margins() {
        SensorArray x = new SensorArray();
        CHECK.due("setMargin(0)", x.setMargin(0), 50);
        CHECK.due("setMargin(400)", x.setMargin(400), 0);
        for (int wrong : new int[] {LOW, -1, 401, HIGH}) {
            CHECK.due("setMargin(" + wrong + ")", x.setMargin(wrong), -3);
        }
        CHECK.due("setMargin(1)", x.setMargin(1), 400);
        CHECK.due("setSlack is another setting", x.setSlack(0), 0);
    }

    private static void slacks() {
        SensorArray x = new SensorArray();
        CHECK.due("setSlack(1000000)", x.setSlack(1000000), 0);
        for (int wrong : new int[] {LOW, -1, 1000001, HIGH}) {
            CHECK.due("setSlack(" + wrong + ")", x.setSlack(wrong), -3);
        }
        CHECK.due("setSlack(0)", x.setSlack(0), 1000000);
        CHECK.due("setSlack(3)", x.setSlack(3), 0);
        CHECK.due("setMargin is another setting", x.setMargin(50), 50);
    }

    private static void classifications() {
        SensorArray x = withClasses(3);
        CHECK.due("classify() without a measurement", x.classify(), -5);
        x.measure(50, 100, 100, 0, 0, 0);
        CHECK.due("classify(): all empty", x.classify(), -1);
        CHECK.due("classify() without classes", fresh().classify(), -1);
        sample(x, 1, 100, 100);
        CHECK.due("classify(): distance 0, radius 0", x.classify(), 1);
        x.measure(50, 101, 100, 0, 0, 0);
        CHECK.due("classify(): distance 1, radius 0", x.classify(), -6);
        x.setSlack(1);
        CHECK.due("classify(): distance 1, radius 1", x.classify(), 1);
        x.measure(50, 101, 101, 0, 0, 0);
        CHECK.due("classify(): distance 2, radius 1", x.classify(), -6);
        // A class that is farther away would take it, but the nearest decides.
        sample(x, 2, 0, 0);
        sample(x, 2, 400, 400);
        x.measure(50, 110, 110, 0, 0, 0);
        CHECK.due("radius(2)", x.radius(2), 120001);
        CHECK.due("distance(2)", x.distance(2), 16200);
        CHECK.due("classify(): too far from the nearest", x.classify(), -6);
        x.measure(50, 300, 300, 0, 0, 0);
        CHECK.due("classify()", x.classify(), 2);
    }

    private static void classDistances() {
        SensorArray x = withClasses(3);
        CHECK.due("classDistance(0, 3)", x.classDistance(0, 3), -2);
        CHECK.due("classDistance(3, 0)", x.classDistance(3, 0), -2);
        CHECK.due("classDistance(-1, 0)", x.classDistance(-1, 0), -2);
        CHECK.due("classDistance(0, LOW)", x.classDistance(0, LOW), -2);
        CHECK.due("classDistance(HIGH, 0)", x.classDistance(HIGH, 0), -2);
        CHECK.due("classDistance(0, 1): empty", x.classDistance(0, 1), -1);
        CHECK.due("classDistance(0, 0): empty", x.classDistance(0, 0), -1);
        sample(x, 0, 10, 10);
        sample(x, 0, 11, 10);
        CHECK.due("classDistance(0, 1): one empty", x.classDistance(0, 1), -1);
        CHECK.due("classDistance(1, 0): one empty", x.classDistance(1, 0), -1);
        sample(x, 1, 20, 30);
        sample(x, 1, 20, 31);
        sample(x, 1, 20, 33);
        // u = 3 * (21, 20) - 2 * (60, 94) = (-57, -128): 19633 / 36
        CHECK.due("classDistance(0, 1)", x.classDistance(0, 1), 545);
        CHECK.due("classDistance(1, 0)", x.classDistance(1, 0), 545);
        CHECK.due("classDistance(0, 0)", x.classDistance(0, 0), 0);
        x.measure(50, 0, 0, 0, 0, 0);
        x.addReference(1);
        x.measure(50, 0, 5, 0, 0, 0);
        x.addReference(2);
        CHECK.due("classDistance(0, 1) across drift: 57 * 57 / 36", x.classDistance(0, 1), 90);
        x.removeSample(0, 0);
        x.removeSample(0, 0);
        CHECK.due("classDistance(0, 1): empty again", x.classDistance(0, 1), -1);
    }

    /** The greatest numbers that the formula meets: full classes, features at both limits, drift. */
    private static void widestClassDistance() {
        SensorArray x = new SensorArray();
        x.reset(5);
        x.addClass();
        x.addClass();
        x.measure(50, 0, 0, 0, 0, 0);
        x.addCalibration();
        x.measure(51, 2000, 2000, 2000, 2000, 2000);
        x.addCalibration();
        x.measure(0, 0, 0, 0, 0, 0);
        for (int i = 0; i < 8; i++) {
            x.addSample(0);
        }
        x.measure(100, 0, 0, 0, 0, 0);
        for (int i = 0; i < 8; i++) {
            x.addSample(1);
        }
        CHECK.due("classDistance(0, 1) without drift", x.classDistance(0, 1), 320000000);
        x.measure(50, 1000, 1000, 1000, 1000, 1000);
        x.addReference(0);
        x.measure(50, 1001, 1001, 1001, 1001, 1001);
        x.addReference(1);
        CHECK.due("classDistance(0, 1) along the drift", x.classDistance(0, 1), 0);
        x.removeReference();
        x.measure(50, 1001, 1001, 1001, 999, 999);
        x.addReference(1);
        // u = -512000 in all five, d = (1, 1, 1, -1, -1) * 1000: uu * (1 - 1 / 25)
        CHECK.due("classDistance(0, 1) askew of the drift", x.classDistance(0, 1), 307200000);
        CHECK.due("joinDistance(0)", x.joinDistance(0), 307200000);
    }

    private static void closestPairs() {
        SensorArray x = withClasses(5);
        CHECK.due("closestClasses(): all empty", x.closestClasses(), -1);
        CHECK.due("closestClasses() without classes", new SensorArray().closestClasses(), -1);
        sample(x, 4, 100, 0);
        CHECK.due("closestClasses(): one class", x.closestClasses(), -1);
        sample(x, 2, 150, 0);
        CHECK.due("closestClasses(): two classes", x.closestClasses(), 24);
        sample(x, 1, 160, 0);
        CHECK.due("closestClasses()", x.closestClasses(), 12);
        sample(x, 3, 110, 0);
        CHECK.due("closestClasses(): equal, the lowest first class", x.closestClasses(), 12);
        sample(x, 0, 140, 0);
        CHECK.due("closestClasses(): equal, the lowest first class", x.closestClasses(), 2);
        x.removeSample(3, 0);
        sample(x, 3, 150, 10);
        CHECK.due("closestClasses(): 2 is near to three", x.closestClasses(), 2);
        x.removeSample(0, 0);
        sample(x, 0, 155, 5);
        CHECK.due("closestClasses(): equal, the lowest second class", x.closestClasses(), 1);
    }

    private static void suspects() {
        SensorArray x = new SensorArray();
        x.reset(3);
        CHECK.due("suspectSensor() without a measurement", x.suspectSensor(), -5);
        x.measure(50, 100, 200, 300, 0, 0);
        CHECK.due("suspectSensor() without classes", x.suspectSensor(), -1);
        x.addClass();
        x.addClass();
        CHECK.due("suspectSensor(): all empty", x.suspectSensor(), -1);
        x.addSample(1);
        CHECK.due("suspectSensor(): equal, the lowest", x.suspectSensor(), 0);
        x.measure(50, 100, 900, 300, 0, 0);
        CHECK.due("suspectSensor()", x.suspectSensor(), 1);
        x.measure(50, 110, 209, 311, 0, 0);
        CHECK.due("suspectSensor()", x.suspectSensor(), 2);
        // Without sensor 2, another class is the nearest: the distance to it is 1.
        x.measure(50, 500, 500, 900, 0, 0);
        x.addSample(0);
        x.measure(50, 501, 500, 303, 0, 0);
        CHECK.due("nearestClass()", x.nearestClass(), 1);
        CHECK.due("suspectSensor()", x.suspectSensor(), 2);
        CHECK.due("nearestClass() is as before", x.nearestClass(), 1);
    }

    /** Drift along sensor 0 alone: without sensor 0, no drift is left. */
    private static void suspectsWithDrift() {
        SensorArray x = withClasses(1);
        x.measure(50, 100, 100, 0, 0, 0);
        x.addReference(0);
        x.addSample(0);
        x.measure(50, 900, 100, 0, 0, 0);
        x.addReference(1);
        x.measure(50, 700, 103, 0, 0, 0);
        // Without 0: 3 * 3. Without 1: the rest lies along the drift.
        CHECK.due("suspectSensor() with drift", x.suspectSensor(), 1);
        x.useDrift(false);
        CHECK.due("suspectSensor() without drift", x.suspectSensor(), 0);
    }
}
