/**
 * Reads out of an object what can be told of its state. Reading it uses the object up: two objects that
 * are read alike were in the same state before.
 */
final class Reader {
    private final SensorArray x;
    private final StringBuilder text = new StringBuilder();
    private final int sensors;
    private final int classes;

    private Reader(SensorArray x) {
        this.x = x;
        sensors = x.sensorCount();
        classes = x.classCount();
        note("sensors and classes", sensors, classes);
    }

    static String read(SensorArray x) {
        Reader reader = new Reader(x);
        reader.settings();
        reader.baselines();
        reader.currentMeasurement();
        reader.classesAsTheyAre();
        reader.references();
        reader.calibrations();
        reader.samples();
        return reader.text.toString();
    }

    private void note(String what, int... answers) {
        text.append(what);
        for (int answer : answers) {
            text.append(' ').append(answer);
        }
        text.append("; ");
    }

    private void settings() {
        note("switches", x.useHumidity(true), x.useDrift(true));
        note("margin and slack", x.setMargin(50), x.setSlack(0));
    }

    /** Read before any call that may be refused, lest a refusal in here hide what one has done before. */
    private void baselines() {
        for (int k = 0; k < sensors; k++) {
            int baseline = x.setBaseline(k, 1000);
            x.setBaseline(k, baseline);
            note("baseline", baseline);
        }
    }

    private void currentMeasurement() {
        for (int k = 0; k < sensors; k++) {
            note("ratio, feature", x.ratio(k), x.feature(k));
        }
        note("position", x.driftPosition());
        note("nearest", x.nearestClass(), x.runnerUp(), x.classify(), x.suspectSensor(), x.vote(3));
    }

    private void classesAsTheyAre() {
        for (int label = 0; label < classes; label++) {
            note("class", x.sampleCount(label), x.distance(label), x.radius(label), x.outlier(label));
        }
        note("pairs", x.closestClasses(), x.joinedGroups(0), x.joinDistance(1));
        note("tests", x.correctCount(), x.leastUsefulSensor(), x.bestSubset(1));
    }

    /** The current measurement is stored behind the others, so that it is told by what follows. */
    private void references() {
        note("predictions", x.predictedReference(0, 0), x.predictedReference(sensors - 1, 0));
        note("latest reference", x.addReference(999));
        int left = 0;
        do {
            for (int k = 0; k < sensors; k++) {
                note("reference", x.driftComponent(k), x.predictedReference(k, 0));
            }
            left = x.removeReference();
            note("references", left);
        } while (left > 0);
    }

    private void calibrations() {
        note("latest calibration", x.addCalibration());
        int left = 0;
        do {
            note("slope", x.humiditySlope(0), x.humiditySlope(1));
            left = x.removeCalibration();
            note("calibrations", left);
        } while (left > 0);
    }

    private void samples() {
        note("a class more", x.addClass(), x.addSample(classes), x.recall(classes, 0));
        for (int label = 0; label < classes; label++) {
            int count = x.sampleCount(label);
            for (int sample = 0; sample < count; sample++) {
                note("sample", x.recall(label, sample), x.ratio(0), x.ratio(sensors - 1));
            }
        }
    }
}
