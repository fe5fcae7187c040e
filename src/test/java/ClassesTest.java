/** Promises 18 to 23: classes and their samples. */
public final class ClassesTest {
    private static final Check CHECK = new Check("ClassesTest");
    private static final int LOW = Integer.MIN_VALUE;
    private static final int HIGH = Integer.MAX_VALUE;

    public static void main(String[] args) {
        addClasses();
        addSamples();
        removeSamples();
        recalls();
        recalledStays();
        CHECK.end();
    }

    private static void addClasses() {
        SensorArray x = new SensorArray();
        CHECK.due("classCount() at first", x.classCount(), 0);
        for (int i = 0; i < 8; i++) {
            CHECK.due("addClass() " + i, x.addClass(), i);
            CHECK.due("classCount()", x.classCount(), i + 1);
            CHECK.due("sampleCount of the new class", x.sampleCount(i), 0);
        }
        CHECK.due("addClass(), the ninth", x.addClass(), -4);
        CHECK.due("classCount()", x.classCount(), 8);
        CHECK.due("sampleCount(7)", x.sampleCount(7), 0);
        CHECK.due("sampleCount(8)", x.sampleCount(8), -2);
        CHECK.due("sampleCount(-1)", x.sampleCount(-1), -2);
        CHECK.due("sampleCount(LOW)", x.sampleCount(LOW), -2);
        CHECK.due("sampleCount(HIGH)", x.sampleCount(HIGH), -2);
    }

    private static void addSamples() {
        SensorArray x = new SensorArray();
        CHECK.due("addSample(0) without anything", x.addSample(0), -2);
        x.addClass();
        x.addClass();
        CHECK.due("addSample(2) without a measurement", x.addSample(2), -2);
        CHECK.due("addSample(1) without a measurement", x.addSample(1), -5);
        x.measure(50, 1, 1, 0, 0, 0);
        CHECK.due("addSample(-1)", x.addSample(-1), -2);
        CHECK.due("addSample(2)", x.addSample(2), -2);
        CHECK.due("addSample(LOW)", x.addSample(LOW), -2);
        CHECK.due("addSample(HIGH)", x.addSample(HIGH), -2);
        for (int i = 0; i < 8; i++) {
            CHECK.due("addSample(1) " + i, x.addSample(1), i);
            CHECK.due("sampleCount(1)", x.sampleCount(1), i + 1);
        }
        CHECK.due("addSample(1), the ninth", x.addSample(1), -4);
        CHECK.due("sampleCount(1)", x.sampleCount(1), 8);
        CHECK.due("sampleCount(0)", x.sampleCount(0), 0);
        CHECK.due("addSample(0): its own capacity", x.addSample(0), 0);
        x.removeSample(1, 3);
        CHECK.due("addSample(1) in the free place", x.addSample(1), 7);
        CHECK.due("addSample(1), full again", x.addSample(1), -4);
    }

    private static void removeSamples() {
        SensorArray x = new SensorArray();
        x.addClass();
        x.addClass();
        for (int i = 0; i < 5; i++) {
            x.measure(10 + i, i, 0, 0, 0, 0);
            x.addSample(1);
        }
        CHECK.due("removeSample(2, 0)", x.removeSample(2, 0), -2);
        CHECK.due("removeSample(-1, 0)", x.removeSample(-1, 0), -2);
        CHECK.due("removeSample(0, 0): empty", x.removeSample(0, 0), -2);
        CHECK.due("removeSample(1, 5)", x.removeSample(1, 5), -2);
        CHECK.due("removeSample(1, -1)", x.removeSample(1, -1), -2);
        CHECK.due("removeSample(1, LOW)", x.removeSample(1, LOW), -2);
        CHECK.due("removeSample(HIGH, HIGH)", x.removeSample(HIGH, HIGH), -2);
        CHECK.due("sampleCount(1) after refusals", x.sampleCount(1), 5);
        CHECK.due("removeSample(1, 1)", x.removeSample(1, 1), 4);
        CHECK.due("recall(1, 0)", x.recall(1, 0), 10);
        CHECK.due("recall(1, 1)", x.recall(1, 1), 12);
        CHECK.due("recall(1, 2)", x.recall(1, 2), 13);
        CHECK.due("recall(1, 3)", x.recall(1, 3), 14);
        CHECK.due("recall(1, 4)", x.recall(1, 4), -2);
        CHECK.due("removeSample(1, 3): the last", x.removeSample(1, 3), 3);
        CHECK.due("removeSample(1, 0): the first", x.removeSample(1, 0), 2);
        CHECK.due("recall(1, 0)", x.recall(1, 0), 12);
        CHECK.due("recall(1, 1)", x.recall(1, 1), 13);
        CHECK.due("removeSample(1, 0)", x.removeSample(1, 0), 1);
        CHECK.due("removeSample(1, 0)", x.removeSample(1, 0), 0);
        CHECK.due("removeSample(1, 0): empty", x.removeSample(1, 0), -2);
        CHECK.due("classCount(): the class stays", x.classCount(), 2);
    }

    private static void recalls() {
        SensorArray x = new SensorArray();
        x.reset(5);
        x.addClass();
        CHECK.due("recall(0, 0): empty", x.recall(0, 0), -2);
        CHECK.due("ratio(0) after a refused recall", x.ratio(0), -5);
        x.measure(0, 1, 2, 3, 4, 5);
        x.addSample(0);
        x.measure(100, 10, 20, 30, 40, 50);
        x.addSample(0);
        x.measure(7, 0, 0, 0, 0, 0);
        CHECK.due("recall(1, 0)", x.recall(1, 0), -2);
        CHECK.due("recall(-1, 0)", x.recall(-1, 0), -2);
        CHECK.due("recall(0, 2)", x.recall(0, 2), -2);
        CHECK.due("recall(0, -1)", x.recall(0, -1), -2);
        CHECK.due("recall(HIGH, LOW)", x.recall(HIGH, LOW), -2);
        CHECK.due("ratio(4) after refused recalls", x.ratio(4), 0);
        CHECK.due("recall(0, 0)", x.recall(0, 0), 0);
        for (int k = 0; k < 5; k++) {
            CHECK.due("ratio(" + k + ") of sample 0", x.ratio(k), k + 1);
        }
        CHECK.due("recall(0, 1)", x.recall(0, 1), 100);
        for (int k = 0; k < 5; k++) {
            CHECK.due("ratio(" + k + ") of sample 1", x.ratio(k), 10 * k + 10);
        }
        CHECK.due("sampleCount(0): they stay", x.sampleCount(0), 2);
        x.setBaseline(4, 500);
        CHECK.due("ratio(4) with the present baseline", x.ratio(4), 100);
    }

    private static void recalledStays() {
        SensorArray x = new SensorArray();
        x.addClass();
        x.measure(30, 70, 80, 0, 0, 0);
        x.addSample(0);
        x.measure(60, 1, 2, 0, 0, 0);
        x.addSample(0);
        x.recall(0, 0);
        x.removeSample(0, 0);
        CHECK.due("ratio(1): the current one outlives its sample", x.ratio(1), 80);
        x.measure(0, 9, 9, 0, 0, 0);
        CHECK.due("recall(0, 0): a new measurement leaves samples alone", x.recall(0, 0), 60);
        CHECK.due("ratio(0)", x.ratio(0), 1);
        CHECK.due("addSample(0): a copy of a sample", x.addSample(0), 1);
        CHECK.due("removeSample(0, 0)", x.removeSample(0, 0), 1);
        CHECK.due("recall(0, 0)", x.recall(0, 0), 60);
    }
}
