/** The four examples of the document, call by call. */
public final class ExamplesTest {
    private static final Check CHECK = new Check("ExamplesTest");

    public static void main(String[] args) {
        example1();
        example2();
        example3();
        example4();
        CHECK.end();
    }

    private static void example1() {
        SensorArray x = new SensorArray();
        CHECK.due("1: addClass()", x.addClass(), 0);
        CHECK.due("1: measure(50, 100, 100)", x.measure(50, 100, 100, 0, 0, 0), 200);
        CHECK.due("1: addSample(0)", x.addSample(0), 0);
        CHECK.due("1: measure(50, 110, 100)", x.measure(50, 110, 100, 0, 0, 0), 210);
        CHECK.due("1: addSample(0)", x.addSample(0), 1);
        CHECK.due("1: radius(0)", x.radius(0), 37);
        CHECK.due("1: measure(50, 111, 100)", x.measure(50, 111, 100, 0, 0, 0), 211);
        CHECK.due("1: classify()", x.classify(), 0);
        CHECK.due("1: measure(50, 112, 100)", x.measure(50, 112, 100, 0, 0, 0), 212);
        CHECK.due("1: distance(0)", x.distance(0), 49);
        CHECK.due("1: classify()", x.classify(), -6);
    }

    private static void example2() {
        SensorArray x = new SensorArray();
        CHECK.due("2: measure(50, 100, 100)", x.measure(50, 100, 100, 0, 0, 0), 200);
        CHECK.due("2: addReference(0)", x.addReference(0), 1);
        CHECK.due("2: measure(50, 200, 100)", x.measure(50, 200, 100, 0, 0, 0), 300);
        CHECK.due("2: addReference(10)", x.addReference(10), 2);
        CHECK.due("2: driftComponent(0)", x.driftComponent(0), 2000);
        CHECK.due("2: driftPosition()", x.driftPosition(), 1000100);
        CHECK.due("2: predictedReference(0, 20)", x.predictedReference(0, 20), 10000300);
        CHECK.due("2: addReference(10)", x.addReference(10), -3);
    }

    private static void example3() {
        SensorArray x = new SensorArray();
        CHECK.due("3: measure(0, 100, 100)", x.measure(0, 100, 100, 0, 0, 0), 200);
        CHECK.due("3: addCalibration()", x.addCalibration(), 1);
        CHECK.due("3: humiditySlope(0)", x.humiditySlope(0), -1);
        CHECK.due("3: measure(100, 200, 100)", x.measure(100, 200, 100, 0, 0, 0), 300);
        CHECK.due("3: addCalibration()", x.addCalibration(), 2);
        CHECK.due("3: humiditySlope(0)", x.humiditySlope(0), 10001000);
        CHECK.due("3: feature(0)", x.feature(0), 10150);
    }

    private static void example4() {
        SensorArray x = new SensorArray();
        CHECK.due("4: addClass()", x.addClass(), 0);
        CHECK.due("4: addClass()", x.addClass(), 1);
        CHECK.due("4: measure(50, 10, 0)", x.measure(50, 10, 0, 0, 0, 0), 10);
        CHECK.due("4: addSample(0)", x.addSample(0), 0);
        CHECK.due("4: measure(50, 30, 0)", x.measure(50, 30, 0, 0, 0, 0), 30);
        CHECK.due("4: addSample(1)", x.addSample(1), 0);
        CHECK.due("4: measure(50, 20, 0)", x.measure(50, 20, 0, 0, 0, 0), 20);
        CHECK.due("4: nearestClass()", x.nearestClass(), 0);
        CHECK.due("4: vote(2)", x.vote(2), 0);
        CHECK.due("4: closestClasses()", x.closestClasses(), 1);
    }
}
