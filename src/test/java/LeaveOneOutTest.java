/** Promises 38 to 44: leave-one-out tests and what is counted by them. */
public final class LeaveOneOutTest {
    private static final Check CHECK = new Check("LeaveOneOutTest");
    private static final int LOW = Integer.MIN_VALUE;
    private static final int HIGH = Integer.MAX_VALUE;

    public static void main(String[] args) {
        errors();
        tests();
        lonelySamples();
        confusions();
        missingSensors();
        missingSensorsWithDrift();
        driftThatIsLeft();
        subsets();
        leastUseful();
        countsAfterChanges();
        testsChangeNothing();
        CHECK.end();
    }

    private static SensorArray with(int sensors, int classes) {
        SensorArray x = new SensorArray();
        x.reset(sensors);
        for (int i = 0; i < classes; i++) {
            x.addClass();
        }
        return x;
    }

    private static void sample(SensorArray x, int label, int a, int b, int c) {
        x.measure(50, a, b, c, 0, 0);
        x.addSample(label);
    }

    private static void errors() {
        SensorArray x = with(3, 2);
        CHECK.due("leaveOneOut(0, 0): empty", x.leaveOneOut(0, 0), -2);
        CHECK.due("leaveOneOut(2, 0)", x.leaveOneOut(2, 0), -2);
        CHECK.due("leaveOneOut(-1, 0)", x.leaveOneOut(-1, 0), -2);
        sample(x, 1, 1, 1, 1);
        CHECK.due("leaveOneOut(1, 1)", x.leaveOneOut(1, 1), -2);
        CHECK.due("leaveOneOut(1, -1)", x.leaveOneOut(1, -1), -2);
        CHECK.due("leaveOneOut(LOW, HIGH)", x.leaveOneOut(LOW, HIGH), -2);
        CHECK.due("confusion(0, 2)", x.confusion(0, 2), -2);
        CHECK.due("confusion(2, 0)", x.confusion(2, 0), -2);
        CHECK.due("confusion(-1, 0)", x.confusion(-1, 0), -2);
        CHECK.due("confusion(0, -1)", x.confusion(0, -1), -2);
        CHECK.due("confusion(HIGH, LOW)", x.confusion(HIGH, LOW), -2);
        CHECK.due("correctWithout(-1)", x.correctWithout(-1), -2);
        CHECK.due("correctWithout(3)", x.correctWithout(3), -2);
        CHECK.due("correctWithout(LOW)", x.correctWithout(LOW), -2);
        CHECK.due("correctWithout(HIGH)", x.correctWithout(HIGH), -2);
        for (int set : new int[] {0, -1, 8, 9, 15, 16, 32, LOW, LOW + 1, HIGH}) {
            CHECK.due("correctWith(" + set + ")", x.correctWith(set), -3);
        }
        for (int size : new int[] {LOW, -1, 0, 4, 5, HIGH}) {
            CHECK.due("bestSubset(" + size + ")", x.bestSubset(size), -3);
        }
        SensorArray five = with(5, 0);
        CHECK.due("correctWith(31) of five", five.correctWith(31), 0);
        CHECK.due("correctWith(32) of five", five.correctWith(32), -3);
        CHECK.due("bestSubset(5) of five", five.bestSubset(5), 31);
        CHECK.due("bestSubset(2) of five, no samples", five.bestSubset(2), 3);
        CHECK.due("bestSubset(6) of five", five.bestSubset(6), -3);
        CHECK.due("correctWithout(4) of five", five.correctWithout(4), 0);
        CHECK.due("leastUsefulSensor(), no samples", five.leastUsefulSensor(), 0);
        CHECK.due("correctCount(), no classes", five.correctCount(), 0);
    }

    private static void tests() {
        SensorArray x = with(2, 2);
        sample(x, 0, 100, 0, 0);
        sample(x, 0, 110, 0, 0);
        sample(x, 0, 180, 0, 0);
        sample(x, 1, 200, 0, 0);
        sample(x, 1, 220, 0, 0);
        // 180 alone is nearer to 210 than to 105; with itself its class would be at 130.
        CHECK.due("leaveOneOut(0, 0): 145 or 210", x.leaveOneOut(0, 0), 0);
        CHECK.due("leaveOneOut(0, 1): 140 or 210", x.leaveOneOut(0, 1), 0);
        CHECK.due("leaveOneOut(0, 2): 105 or 210", x.leaveOneOut(0, 2), 1);
        CHECK.due("leaveOneOut(1, 0): 130 or 220", x.leaveOneOut(1, 0), 1);
        CHECK.due("leaveOneOut(1, 1): 130 or 200", x.leaveOneOut(1, 1), 1);
        CHECK.due("correctCount()", x.correctCount(), 4);
        // Equal distances give the lowest class: 160 lies between 130 and 190.
        x.removeSample(1, 0);
        x.removeSample(1, 0);
        sample(x, 1, 190, 0, 0);
        sample(x, 1, 160, 0, 0);
        CHECK.due("leaveOneOut(1, 1): equal, the lowest", x.leaveOneOut(1, 1), 0);
        // Only the class of the sample goes without it: 1 keeps both when a sample of 0 is tested.
        CHECK.due("leaveOneOut(0, 2): 105 or 175", x.leaveOneOut(0, 2), 1);
        CHECK.due("correctCount()", x.correctCount(), 2 + correct(x, 1, 0));
        // The current measurement does not matter.
        x.measure(50, 9999, 9999, 0, 0, 0);
        CHECK.due("leaveOneOut(0, 2) elsewhere", x.leaveOneOut(0, 2), 1);
    }

    private static int correct(SensorArray x, int label, int sample) {
        return x.leaveOneOut(label, sample) == label ? 1 : 0;
    }

    private static void lonelySamples() {
        SensorArray x = with(2, 3);
        sample(x, 1, 100, 0, 0);
        CHECK.due("leaveOneOut(1, 0): no class remains", x.leaveOneOut(1, 0), -1);
        CHECK.due("correctCount()", x.correctCount(), 0);
        CHECK.due("confusion(1, 1)", x.confusion(1, 1), 0);
        CHECK.due("confusion(1, 0)", x.confusion(1, 0), 0);
        CHECK.due("correctWith(3)", x.correctWith(3), 0);
        sample(x, 2, 900, 0, 0);
        CHECK.due("leaveOneOut(1, 0): its class is skipped", x.leaveOneOut(1, 0), 2);
        CHECK.due("leaveOneOut(2, 0): its class is skipped", x.leaveOneOut(2, 0), 1);
        CHECK.due("correctCount()", x.correctCount(), 0);
        sample(x, 1, 500, 0, 0);
        CHECK.due("leaveOneOut(1, 0): 500 or 900", x.leaveOneOut(1, 0), 1);
        CHECK.due("leaveOneOut(1, 1): equal, the lowest", x.leaveOneOut(1, 1), 1);
        CHECK.due("correctCount()", x.correctCount(), 2);
    }

    private static void confusions() {
        SensorArray x = with(2, 4);
        int[] first = {100, 102, 104, 300, 301, 500};
        for (int a : first) {
            sample(x, 0, a, 0, 0);
        }
        sample(x, 1, 300, 0, 0);
        sample(x, 1, 301, 0, 0);
        sample(x, 2, 520, 0, 0);
        // Without one of its own, class 0 lies between 181 and 261.
        CHECK.due("confusion(0, 0)", x.confusion(0, 0), 3);
        CHECK.due("confusion(0, 1)", x.confusion(0, 1), 2);
        CHECK.due("confusion(0, 2)", x.confusion(0, 2), 1);
        CHECK.due("confusion(0, 3): empty", x.confusion(0, 3), 0);
        CHECK.due("confusion(3, 0): empty", x.confusion(3, 0), 0);
        CHECK.due("confusion(1, 1)", x.confusion(1, 1), 2);
        CHECK.due("confusion(2, 1): alone in its class", x.confusion(2, 1), 1);
        CHECK.due("confusion(2, 2)", x.confusion(2, 2), 0);
        CHECK.due("correctCount()", x.correctCount(), 5);
    }

    /** Sensor 0 tells the classes apart, sensor 1 misleads, sensor 2 says nothing. */
    private static SensorArray misleading() {
        SensorArray x = with(3, 2);
        sample(x, 0, 100, 0, 500);
        sample(x, 0, 110, 400, 500);
        sample(x, 1, 200, 0, 500);
        sample(x, 1, 210, 400, 500);
        return x;
    }

    private static void missingSensors() {
        SensorArray x = misleading();
        CHECK.due("correctCount()", x.correctCount(), 0);
        CHECK.due("correctWithout(0)", x.correctWithout(0), 0);
        CHECK.due("correctWithout(1)", x.correctWithout(1), 4);
        CHECK.due("correctWithout(2)", x.correctWithout(2), 0);
        CHECK.due("correctWith(1)", x.correctWith(1), 4);
        CHECK.due("correctWith(2)", x.correctWith(2), 0);
        CHECK.due("correctWith(3)", x.correctWith(3), 0);
        // Sensor 2 alone: all distances are 0, and all results the lowest class.
        CHECK.due("correctWith(4)", x.correctWith(4), 2);
        CHECK.due("correctWith(5)", x.correctWith(5), 4);
        CHECK.due("correctWith(6)", x.correctWith(6), 0);
        CHECK.due("correctWith(7)", x.correctWith(7), 0);
        CHECK.due("correctCount() as before", x.correctCount(), 0);
    }

    private static void subsets() {
        SensorArray x = misleading();
        CHECK.due("bestSubset(1)", x.bestSubset(1), 1);
        CHECK.due("bestSubset(2)", x.bestSubset(2), 5);
        CHECK.due("bestSubset(3)", x.bestSubset(3), 7);
        SensorArray last = with(5, 2);
        int[][] samples = {{0, 100}, {0, 110}, {1, 200}, {1, 210}};
        for (int[] s : samples) {
            last.measure(50, 0, 0, 0, 0, s[1]);
            last.addSample(s[0]);
        }
        CHECK.due("bestSubset(1): the last sensor", last.bestSubset(1), 16);
        CHECK.due("bestSubset(2): equal, the lowest", last.bestSubset(2), 17);
        CHECK.due("bestSubset(3): equal, the lowest", last.bestSubset(3), 19);
        CHECK.due("bestSubset(4): equal, the lowest", last.bestSubset(4), 23);
        CHECK.due("bestSubset(5)", last.bestSubset(5), 31);
    }

    private static void leastUseful() {
        CHECK.due("leastUsefulSensor()", misleading().leastUsefulSensor(), 1);
        SensorArray x = with(3, 2);
        sample(x, 0, 100, 5, 5);
        sample(x, 0, 110, 5, 5);
        sample(x, 1, 200, 5, 5);
        sample(x, 1, 210, 5, 5);
        CHECK.due("leastUsefulSensor(): equal, the lowest", x.leastUsefulSensor(), 1);
        x.removeSample(1, 0);
        x.removeSample(1, 0);
        CHECK.due("leastUsefulSensor(): all equal", x.leastUsefulSensor(), 0);
    }

    /**
     * Drift along (1000, 1000, 0); the samples differ along it and a little across it. A missing
     * sensor takes its drift component away, the others keep theirs.
     */
    private static void missingSensorsWithDrift() {
        SensorArray x = with(3, 2);
        sample(x, 0, 100, 100, 50);
        sample(x, 0, 300, 300, 50);
        sample(x, 1, 120, 100, 90);
        sample(x, 1, 330, 310, 90);
        CHECK.due("correctCount() before there is drift", x.correctCount(), 0);
        x.measure(50, 500, 500, 500, 0, 0);
        x.addReference(0);
        x.measure(50, 600, 600, 500, 0, 0);
        x.addReference(7);
        CHECK.due("correctCount() across the drift", x.correctCount(), 4);
        CHECK.due("correctWithout(2): 0 and 200 across", x.correctWithout(2), 4);
        // One of the two drifting sensors left: it lies along the drift, sensor 2 decides.
        CHECK.due("correctWithout(0)", x.correctWithout(0), 4);
        CHECK.due("correctWithout(1)", x.correctWithout(1), 4);
        CHECK.due("correctWith(1): all distances are 0", x.correctWith(1), 2);
        CHECK.due("correctWith(4): no drift left", x.correctWith(4), 4);
        x.useDrift(false);
        CHECK.due("correctCount(), switched off", x.correctCount(), 0);
        CHECK.due("correctWithout(0), switched off", x.correctWithout(0), 0);
        CHECK.due("correctWith(1), switched off", x.correctWith(1), 0);
        CHECK.due("correctWith(4), switched off", x.correctWith(4), 4);
    }

    /** Sensor 1 drifts by 1 where sensor 0 drifts by 2 or by 1999: a component of 500, or none. */
    private static void driftThatIsLeft() {
        SensorArray x = with(2, 2);
        sample(x, 0, 0, 100, 0);
        sample(x, 0, 0, 101, 0);
        sample(x, 1, 0, 200, 0);
        sample(x, 1, 0, 201, 0);
        x.measure(50, 0, 100, 0, 0, 0);
        x.addReference(0);
        x.measure(50, 2, 101, 0, 0, 0);
        x.addReference(1);
        CHECK.due("driftComponent(1)", x.driftComponent(1), 1500);
        CHECK.due("correctWithout(0): along the drift", x.correctWithout(0), 2);
        x.removeReference();
        x.measure(50, 1999, 101, 0, 0, 0);
        x.addReference(1);
        CHECK.due("driftComponent(1)", x.driftComponent(1), 1000);
        CHECK.due("correctWithout(0): no drift is left", x.correctWithout(0), 4);
        CHECK.due("correctWith(2)", x.correctWith(2), 4);
        CHECK.due("correctWith(1)", x.correctWith(1), 2);
    }

    /** Each count right after a change, with no other call between them. */
    private static void countsAfterChanges() {
        SensorArray x = misleading();
        CHECK.due("correctWith(1), the first call", x.correctWith(1), 4);
        x.setBaseline(0, 100);
        CHECK.due("correctWith(1): ratios 1000, 1100, 2000, 2000", x.correctWith(1), 4);
        x.removeSample(1, 0);
        CHECK.due("correctWithout(1) after a removal", x.correctWithout(1), 2);
        x.removeSample(1, 0);
        CHECK.due("bestSubset(1): class 0 alone is always right", x.bestSubset(1), 1);
        CHECK.due("confusion(0, 0)", x.confusion(0, 0), 2);
        x.removeSample(0, 0);
        CHECK.due("correctWith(7) after a removal", x.correctWith(7), 0);
    }

    private static void testsChangeNothing() {
        SensorArray x = misleading();
        x.measure(50, 100, 200, 500, 0, 0);
        int distance = x.distance(0);
        x.leaveOneOut(0, 0);
        x.confusion(0, 1);
        x.correctCount();
        x.bestSubset(2);
        x.leastUsefulSensor();
        CHECK.due("distance(0) after tests", x.distance(0), distance);
        CHECK.due("distance(0): (-5, 0)", distance, 25);
        CHECK.due("sampleCount(0)", x.sampleCount(0), 2);
        CHECK.due("recall(0, 1)", x.recall(0, 1), 50);
        CHECK.due("ratio(1)", x.ratio(1), 400);
    }
}
