/**
 * A classifier for patterns of an array of cheap sensors: a nearest-mean classifier with rejection.
 *
 * <p>What is stored are raw measurements alone. Ratios, features, drift and class sums are worked out
 * from them anew by each call that needs them, because a change of a baseline, a calibration or a
 * switch changes the features of everything stored earlier.
 */
public final class SensorArray {
    /** There is no such result. */
    public static final int NONE = -1;
    /** A sensor, class, sample, calibration or reference does not exist. */
    public static final int NO_SUCH = -2;
    /** A parameter is out of range. */
    public static final int BAD_VALUE = -3;
    /** A capacity is exceeded. */
    public static final int FULL = -4;
    /** The necessary data are missing. */
    public static final int NOT_READY = -5;
    /** The sample is rejected. */
    public static final int REJECTED = -6;

    private static final int MIN_SENSORS = 2;
    private static final int MAX_SENSORS = 5;
    private static final int EVERY_SENSOR = (1 << MAX_SENSORS) - 1;
    private static final int MIN_BASELINE = 100;
    private static final int MAX_BASELINE = 9999;
    private static final int FIRST_BASELINE = 1000;
    private static final int MAX_READING = 9999;
    private static final int MAX_HUMIDITY = 100;
    private static final int MIDDLE_HUMIDITY = 50;
    private static final int MAX_RATIO = 2000;
    private static final int MAX_FEATURE = 4000;
    private static final int MAX_CALIBRATIONS = 12;
    private static final int MAX_REFERENCES = 10;
    private static final int MAX_TIME = 999;
    private static final int MAX_CLASSES = 8;
    private static final int SAMPLES_PER_CLASS = 8;
    private static final int MAX_SAMPLES = MAX_CLASSES * SAMPLES_PER_CLASS;
    private static final int FIRST_MARGIN = 50;
    private static final int MAX_MARGIN = 400;
    private static final int MAX_SLACK = 1000000;
    private static final long PERFECT_SCORE = 1000000;
    private static final long MAX_SCORE = 2000000000;

    /** What is added to an answer that may be negative, so that it can't be taken for an error. */
    private static final int FEATURE_OFFSET = 10000;
    private static final int SLOPE_OFFSET = 10000000;
    private static final int COMPONENT_OFFSET = 1000;
    private static final int POSITION_OFFSET = 1000000;
    private static final int PREDICTION_OFFSET = 10000000;

    private final Converter converter = new Converter();
    private final Drift drift = new Drift();
    private final Metric metric = new Metric();
    private final Group[] groups = new Group[MAX_CLASSES];
    private final Ranking ranking = new Ranking();
    private final Linkage linkage = new Linkage();
    private final Measurement blank = new Measurement(0, 0, 0, 0, 0, 0);
    /** The features of the current measurement, as of the latest call of prepare. */
    private final int[] here = new int[MAX_SENSORS];
    private Measurement current = blank;
    private boolean measured;
    private int classes;
    private int margin;
    private int slack;

    public SensorArray() {
        for (int i = 0; i < groups.length; i++) {
            groups[i] = new Group();
        }
        restart(MIN_SENSORS);
    }

    // ---- sensors and measurements

    public int reset(int sensors) {
        if (!isWithin(sensors, MIN_SENSORS, MAX_SENSORS)) {
            return BAD_VALUE;
        }
        restart(sensors);
        return sensors;
    }

    public int sensorCount() {
        return converter.sensors;
    }

    public int setBaseline(int sensor, int value) {
        if (!hasSensor(sensor)) {
            return NO_SUCH;
        }
        if (!isWithin(value, MIN_BASELINE, MAX_BASELINE)) {
            return BAD_VALUE;
        }
        return converter.changeBaseline(sensor, value);
    }

    public int measure(int humidity, int a, int b, int c, int d, int e) {
        if (!isWithin(humidity, 0, MAX_HUMIDITY)) {
            return BAD_VALUE;
        }
        boolean fits = isReading(0, a) && isReading(1, b) && isReading(2, c)
                && isReading(3, d) && isReading(4, e);
        if (!fits) {
            return BAD_VALUE;
        }
        current = new Measurement(humidity, a, b, c, d, e);
        measured = true;
        return a + b + c + d + e;
    }

    public int ratio(int sensor) {
        if (!hasSensor(sensor)) {
            return NO_SUCH;
        }
        if (!measured) {
            return NOT_READY;
        }
        return converter.ratioIn(current, sensor);
    }

    public int feature(int sensor) {
        if (!hasSensor(sensor)) {
            return NO_SUCH;
        }
        if (!measured) {
            return NOT_READY;
        }
        return converter.featureIn(current, sensor) + FEATURE_OFFSET;
    }

    // ---- humidity

    public int addCalibration() {
        if (!measured) {
            return NOT_READY;
        }
        if (converter.calibrations.isFull()) {
            return FULL;
        }
        return converter.addToFit(current);
    }

    public int removeCalibration() {
        if (converter.calibrations.count == 0) {
            return NO_SUCH;
        }
        return converter.removeFromFit();
    }

    public int humiditySlope(int sensor) {
        if (!hasSensor(sensor)) {
            return NO_SUCH;
        }
        if (converter.sxx == 0) {
            return NONE;
        }
        return (int) quotient(1000 * converter.sxy[sensor], converter.sxx) + SLOPE_OFFSET;
    }

    public int useHumidity(boolean on) {
        int before = converter.correcting ? 1 : 0;
        converter.correcting = on;
        return before;
    }

    // ---- drift

    public int addReference(int time) {
        if (!measured) {
            return NOT_READY;
        }
        if (!isWithin(time, 0, MAX_TIME) || time <= drift.latestTime()) {
            return BAD_VALUE;
        }
        if (drift.references.isFull()) {
            return FULL;
        }
        return drift.append(current, time);
    }

    public int removeReference() {
        if (drift.references.count == 0) {
            return NO_SUCH;
        }
        drift.references.removeAt(drift.references.count - 1);
        return drift.references.count;
    }

    public int driftComponent(int sensor) {
        if (!hasSensor(sensor)) {
            return NO_SUCH;
        }
        drift.refresh(converter);
        return drift.components[sensor] + COMPONENT_OFFSET;
    }

    public int driftPosition() {
        if (!measured) {
            return NOT_READY;
        }
        drift.refresh(converter);
        if (!drift.exists) {
            return NONE;
        }
        converter.fillFeatures(current, here);
        return drift.positionOf(here) + POSITION_OFFSET;
    }

    public int useDrift(boolean on) {
        int before = drift.on ? 1 : 0;
        drift.on = on;
        return before;
    }

    public int predictedReference(int sensor, int time) {
        if (!hasSensor(sensor)) {
            return NO_SUCH;
        }
        if (!isWithin(time, 0, MAX_TIME)) {
            return BAD_VALUE;
        }
        if (drift.references.count < 2) {
            return NONE;
        }
        drift.refresh(converter);
        return drift.predict(sensor, time) + PREDICTION_OFFSET;
    }

    // ---- classes and samples

    public int addClass() {
        if (classes >= MAX_CLASSES) {
            return FULL;
        }
        classes++;
        return classes - 1;
    }

    public int classCount() {
        return classes;
    }

    public int addSample(int label) {
        if (!hasClass(label)) {
            return NO_SUCH;
        }
        if (!measured) {
            return NOT_READY;
        }
        Store samples = groups[label].samples;
        if (samples.isFull()) {
            return FULL;
        }
        samples.append(current);
        return samples.count - 1;
    }

    public int removeSample(int label, int sample) {
        if (!hasSample(label, sample)) {
            return NO_SUCH;
        }
        Store samples = groups[label].samples;
        samples.removeAt(sample);
        return samples.count;
    }

    public int recall(int label, int sample) {
        if (!hasSample(label, sample)) {
            return NO_SUCH;
        }
        current = groups[label].samples.at(sample);
        measured = true;
        return current.humidity;
    }

    public int sampleCount(int label) {
        return hasClass(label) ? groups[label].samples.count : NO_SUCH;
    }

    // ---- distances and classification

    public int distance(int label) {
        if (!hasClass(label)) {
            return NO_SUCH;
        }
        if (!measured) {
            return NOT_READY;
        }
        prepare();
        return gapToClass(here, label);
    }

    public int nearestClass() {
        if (!measured) {
            return NOT_READY;
        }
        prepare();
        return nearestTo(here, NONE);
    }

    public int runnerUp() {
        if (!measured) {
            return NOT_READY;
        }
        prepare();
        return nearestTo(here, nearestTo(here, NONE));
    }

    public int radius(int label) {
        if (!hasClass(label)) {
            return NO_SUCH;
        }
        prepare();
        return reachOf(label);
    }

    public int setMargin(int percent) {
        if (!isWithin(percent, 0, MAX_MARGIN)) {
            return BAD_VALUE;
        }
        int before = margin;
        margin = percent;
        return before;
    }

    public int setSlack(int slack) {
        if (!isWithin(slack, 0, MAX_SLACK)) {
            return BAD_VALUE;
        }
        int before = this.slack;
        this.slack = slack;
        return before;
    }

    public int classify() {
        if (!measured) {
            return NOT_READY;
        }
        prepare();
        int nearest = nearestTo(here, NONE);
        if (nearest == NONE) {
            return NONE;
        }
        return gapToClass(here, nearest) <= reachOf(nearest) ? nearest : REJECTED;
    }

    public int classDistance(int first, int second) {
        if (!hasClass(first) || !hasClass(second)) {
            return NO_SUCH;
        }
        prepare();
        return gapOfClasses(first, second);
    }

    public int closestClasses() {
        prepare();
        // In step 0 of the clustering each group is still a single class.
        return runClustering(0) ? linkage.pairCode() : NONE;
    }

    public int suspectSensor() {
        if (!measured) {
            return NOT_READY;
        }
        prepare();
        int suspect = NONE;
        int least = 0;
        for (int sensor = 0; sensor < converter.sensors; sensor++) {
            metric.aim(drift, allBut(sensor));
            int nearest = nearestTo(here, NONE);
            if (nearest == NONE) {
                return NONE;
            }
            int gap = gapToClass(here, nearest);
            if (suspect == NONE || gap < least) {
                suspect = sensor;
                least = gap;
            }
        }
        return suspect;
    }

    public int joinedGroups(int step) {
        if (step < 0) {
            return BAD_VALUE;
        }
        prepare();
        return runClustering(step) ? linkage.pairCode() : NONE;
    }

    public int joinDistance(int step) {
        if (step < 0) {
            return BAD_VALUE;
        }
        prepare();
        return runClustering(step) ? linkage.gap : NONE;
    }

    // ---- nearest samples

    public int nearestSample(int rank) {
        if (rank < 0) {
            return BAD_VALUE;
        }
        if (!measured) {
            return NOT_READY;
        }
        prepare();
        rankSamples();
        return rank < ranking.size ? ranking.codes[rank] : NONE;
    }

    public int vote(int count) {
        if (!isWithin(count, 1, MAX_SAMPLES)) {
            return BAD_VALUE;
        }
        if (!measured) {
            return NOT_READY;
        }
        prepare();
        rankSamples();
        return ranking.winnerOf(count);
    }

    // ---- tests and scores

    public int leaveOneOut(int label, int sample) {
        if (!hasSample(label, sample)) {
            return NO_SUCH;
        }
        prepare();
        return resultOfTest(label, sample);
    }

    public int confusion(int label, int result) {
        if (!hasClass(label) || !hasClass(result)) {
            return NO_SUCH;
        }
        prepare();
        return countResults(label, result);
    }

    public int correctCount() {
        prepare();
        return countCorrect(EVERY_SENSOR);
    }

    public int correctWithout(int sensor) {
        if (!hasSensor(sensor)) {
            return NO_SUCH;
        }
        prepare();
        return countCorrect(allBut(sensor));
    }

    public int correctWith(int set) {
        if (!isWithin(set, 1, (1 << converter.sensors) - 1)) {
            return BAD_VALUE;
        }
        prepare();
        return countCorrect(set);
    }

    public int bestSubset(int size) {
        if (!isWithin(size, 1, converter.sensors)) {
            return BAD_VALUE;
        }
        prepare();
        int best = NONE;
        int most = NONE;
        for (int set = 1; set < 1 << converter.sensors; set++) {
            if (Integer.bitCount(set) == size) {
                int count = countCorrect(set);
                if (count > most) {
                    best = set;
                    most = count;
                }
            }
        }
        return best;
    }

    public int leastUsefulSensor() {
        prepare();
        int best = NONE;
        int most = NONE;
        for (int sensor = 0; sensor < converter.sensors; sensor++) {
            int count = countCorrect(allBut(sensor));
            if (count > most) {
                best = sensor;
                most = count;
            }
        }
        return best;
    }

    public int sensorScore(int sensor) {
        if (!hasSensor(sensor)) {
            return NO_SUCH;
        }
        prepare();
        return scoreOf(sensor);
    }

    public int outlier(int label) {
        if (!hasClass(label)) {
            return NO_SUCH;
        }
        prepare();
        return farthestSample(label);
    }

    // ---- what the methods above share

    private void restart(int sensors) {
        converter.restart(sensors);
        drift.restart();
        for (int i = 0; i < groups.length; i++) {
            groups[i].samples.clear();
        }
        classes = 0;
        current = blank;
        measured = false;
        margin = FIRST_MARGIN;
        slack = 0;
    }

    /** Works out all that distances rest on: features, class sums, and drift with every sensor taken. */
    private void prepare() {
        converter.fillFeatures(current, here);
        drift.refresh(converter);
        metric.aim(drift, EVERY_SENSOR);
        for (int label = 0; label < classes; label++) {
            groups[label].refresh(converter);
        }
    }

    private boolean hasSensor(int sensor) {
        return sensor >= 0 && sensor < converter.sensors;
    }

    private boolean hasClass(int label) {
        return label >= 0 && label < classes;
    }

    private boolean hasSample(int label, int sample) {
        return hasClass(label) && sample >= 0 && sample < groups[label].samples.count;
    }

    private boolean isReading(int sensor, int value) {
        return isWithin(value, 0, hasSensor(sensor) ? MAX_READING : 0);
    }

    /** The distance of features to a class; NONE if the class is empty. */
    private int gapToClass(int[] features, int label) {
        return metric.gap(features, 1, groups[label].sums, groups[label].weight);
    }

    /** The distance of features to a sample. */
    private int gapToSample(int[] features, int label, int sample) {
        return metric.gap(features, 1, groups[label].rows[sample], 1);
    }

    /** The distance of two classes; NONE if one is empty. */
    private int gapOfClasses(int first, int second) {
        Group one = groups[first];
        Group other = groups[second];
        return metric.gap(one.sums, one.weight, other.sums, other.weight);
    }

    /** The nearest class of features other than the skipped one; NONE if there is none. */
    private int nearestTo(int[] features, int skipped) {
        int nearest = NONE;
        int least = 0;
        for (int label = 0; label < classes; label++) {
            int gap = label == skipped ? NONE : gapToClass(features, label);
            if (gap != NONE && (nearest == NONE || gap < least)) {
                nearest = label;
                least = gap;
            }
        }
        return nearest;
    }

    /** The number of the sample that is farthest from its class; NONE if the class is empty. */
    private int farthestSample(int label) {
        Group group = groups[label];
        int farthest = NONE;
        int most = NONE;
        for (int sample = 0; sample < group.samples.count; sample++) {
            int gap = gapToClass(group.rows[sample], label);
            if (gap > most) {
                farthest = sample;
                most = gap;
            }
        }
        return farthest;
    }

    /** The radius of a class; NONE if it is empty. */
    private int reachOf(int label) {
        int farthest = farthestSample(label);
        if (farthest == NONE) {
            return NONE;
        }
        long most = gapToClass(groups[label].rows[farthest], label);
        return (int) (quotient((100 + margin) * most, 100) + slack);
    }

    /** Runs the clustering up to a step; tells whether there is such a step. */
    private boolean runClustering(int step) {
        linkage.clear();
        for (int second = 0; second < classes; second++) {
            if (groups[second].weight != 0) {
                for (int first = 0; first < second; first++) {
                    linkage.setGap(first, second, gapOfClasses(first, second));
                }
                linkage.include(second);
            }
        }
        return linkage.runTo(step);
    }

    private void rankSamples() {
        ranking.clear();
        for (int label = 0; label < classes; label++) {
            for (int sample = 0; sample < groups[label].samples.count; sample++) {
                ranking.insert(10 * label + sample, gapToSample(here, label, sample));
            }
        }
    }

    private int resultOfTest(int label, int sample) {
        Group group = groups[label];
        group.weigh(sample, -1);
        int result = nearestTo(group.rows[sample], NONE);
        group.weigh(sample, 1);
        return result;
    }

    private int countResults(int label, int result) {
        int count = 0;
        for (int sample = 0; sample < groups[label].samples.count; sample++) {
            if (resultOfTest(label, sample) == result) {
                count++;
            }
        }
        return count;
    }

    private int countCorrect(int set) {
        metric.aim(drift, set);
        int count = 0;
        for (int label = 0; label < classes; label++) {
            count += countResults(label, label);
        }
        return count;
    }

    private int scoreOf(int sensor) {
        long within = 0;
        long n = 0;
        long sum = 0;
        long squares = 0;
        for (int label = 0; label < classes; label++) {
            Group group = groups[label];
            if (group.weight != 0) {
                long ownSum = group.sums[sensor];
                long ownSquares = group.squaresOf(sensor);
                within += scatter(group.weight, ownSum, ownSquares);
                n += group.weight;
                sum += ownSum;
                squares += ownSquares;
            }
        }
        if (n == 0) {
            return NONE;
        }
        long between = scatter(n, sum, squares) - within;
        if (within == 0) {
            return (int) (between > 0 ? PERFECT_SCORE : 0);
        }
        return (int) Math.min(quotient(1000 * between, within), MAX_SCORE);
    }

    /** The sum of the squares of n values' differences from their mean. */
    private static long scatter(long n, long sum, long squares) {
        return quotient(n * squares - sum * sum, n);
    }

    private static int allBut(int sensor) {
        return EVERY_SENSOR & ~(1 << sensor);
    }

    private static boolean isWithin(int value, int lowest, int highest) {
        return value >= lowest && value <= highest;
    }

    /** Division that rounds towards negative infinity, by a positive divisor: the document has no other. */
    private static long quotient(long dividend, long divisor) {
        if (divisor <= 0) {
            return 0;
        }
        long rounded = dividend / divisor;
        return dividend % divisor < 0 ? rounded - 1 : rounded;
    }

    /** A humidity and raw readings; sensors that do not exist read 0. It never changes, so it can be shared. */
    private static final class Measurement {
        private final int humidity;
        private final int[] readings;

        Measurement(int humidity, int a, int b, int c, int d, int e) {
            this.humidity = humidity;
            this.readings = new int[] {a, b, c, d, e};
        }
    }

    /** A list of measurements with a capacity. */
    private static final class Store {
        private final Measurement[] held;
        private final Measurement blank;
        private int count;

        Store(int capacity) {
            held = new Measurement[Math.max(capacity, 0)];
            blank = new Measurement(0, 0, 0, 0, 0, 0);
            for (int i = 0; i < held.length; i++) {
                held[i] = blank;
            }
        }

        boolean isFull() {
            return count >= held.length;
        }

        void clear() {
            count = 0;
        }

        void append(Measurement measurement) {
            if (count < held.length) {
                held[count] = measurement;
                count++;
            }
        }

        void removeAt(int place) {
            if (place < 0 || place >= count) {
                return;
            }
            for (int i = place + 1; i < count; i++) {
                held[i - 1] = held[i];
            }
            count--;
        }

        Measurement at(int place) {
            return place >= 0 && place < count ? held[place] : blank;
        }
    }

    /** The sums of a linear regression over points (x, y). */
    private static final class Line {
        private long n;
        private long sumX;
        private long sumY;
        private long sumXX;
        private long sumXY;

        void clear() {
            n = 0;
            sumX = 0;
            sumY = 0;
            sumXX = 0;
            sumXY = 0;
        }

        void add(long x, long y) {
            n++;
            sumX += x;
            sumY += y;
            sumXX += x * x;
            sumXY += x * y;
        }

        /** sxy of the document, and g for drift. */
        long cross() {
            return n * sumXY - sumX * sumY;
        }

        /** sxx of the document, and stt for drift. */
        long square() {
            return n * sumXX - sumX * sumX;
        }
    }

    /** Turns measurements into ratios and features; keeps what that needs. */
    private static final class Converter {
        private final int[] baselines = new int[MAX_SENSORS];
        private final Store calibrations = new Store(MAX_CALIBRATIONS);
        private final Line line = new Line();
        private final long[] sxy = new long[MAX_SENSORS];
        private long sxx;
        private boolean correcting;
        private int sensors;

        void restart(int sensors) {
            this.sensors = sensors;
            for (int sensor = 0; sensor < MAX_SENSORS; sensor++) {
                baselines[sensor] = FIRST_BASELINE;
            }
            calibrations.clear();
            correcting = true;
            fit();
        }

        int changeBaseline(int sensor, int value) {
            int before = baselines[sensor];
            baselines[sensor] = value;
            fit();
            return before;
        }

        int addToFit(Measurement measurement) {
            calibrations.append(measurement);
            fit();
            return calibrations.count;
        }

        int removeFromFit() {
            calibrations.removeAt(calibrations.count - 1);
            fit();
            return calibrations.count;
        }

        // A sensor that does not exist reads 0 everywhere, so its feature comes out as 0 and adds
        // nothing to any distance: loops can always go over all the sensors there may be.
        private void fit() {
            for (int sensor = 0; sensor < MAX_SENSORS; sensor++) {
                line.clear();
                for (int i = 0; i < calibrations.count; i++) {
                    Measurement calibration = calibrations.at(i);
                    line.add(calibration.humidity, ratioIn(calibration, sensor));
                }
                sxy[sensor] = line.cross();
                sxx = line.square();
            }
        }

        int ratioIn(Measurement measurement, int sensor) {
            long ratio = quotient(1000L * measurement.readings[sensor], baselines[sensor]);
            return (int) Math.min(ratio, MAX_RATIO);
        }

        int featureIn(Measurement measurement, int sensor) {
            long feature = ratioIn(measurement, sensor) - correction(sensor, measurement.humidity);
            return (int) Math.max(-MAX_FEATURE, Math.min(feature, MAX_FEATURE));
        }

        private long correction(int sensor, int humidity) {
            if (!correcting || sxx == 0) {
                return 0;
            }
            return quotient(sxy[sensor] * (humidity - MIDDLE_HUMIDITY), sxx);
        }

        void fillFeatures(Measurement measurement, int[] row) {
            for (int sensor = 0; sensor < row.length && sensor < MAX_SENSORS; sensor++) {
                row[sensor] = featureIn(measurement, sensor);
            }
        }
    }

    /** The references, and the drift that they show. */
    private static final class Drift {
        private final Store references = new Store(MAX_REFERENCES);
        private final int[] times = new int[MAX_REFERENCES];
        private final Line line = new Line();
        /** What follows from the references, as of the latest call of refresh. */
        private final int[][] rows = new int[MAX_REFERENCES][MAX_SENSORS];
        private final long[] trends = new long[MAX_SENSORS];
        private final int[] components = new int[MAX_SENSORS];
        private boolean exists;
        private boolean on;

        void restart() {
            references.clear();
            on = true;
        }

        int latestTime() {
            int latest = references.count - 1;
            return latest >= 0 && latest < times.length ? times[latest] : NONE;
        }

        int append(Measurement measurement, int time) {
            if (references.count < times.length) {
                times[references.count] = time;
                references.append(measurement);
            }
            return references.count;
        }

        void refresh(Converter converter) {
            for (int i = 0; i < references.count; i++) {
                converter.fillFeatures(references.at(i), rows[i]);
            }
            long greatest = 0;
            for (int sensor = 0; sensor < MAX_SENSORS; sensor++) {
                sumUp(sensor);
                trends[sensor] = line.cross();
                greatest = Math.max(greatest, Math.abs(trends[sensor]));
            }
            exists = greatest != 0;
            for (int sensor = 0; sensor < MAX_SENSORS; sensor++) {
                components[sensor] = exists ? (int) (trends[sensor] * 1000 / greatest) : 0;
            }
        }

        private void sumUp(int sensor) {
            line.clear();
            for (int i = 0; i < references.count; i++) {
                line.add(times[i], rows[i][sensor]);
            }
        }

        int positionOf(int[] features) {
            long ud = 0;
            long dd = 0;
            for (int sensor = 0; sensor < MAX_SENSORS; sensor++) {
                long component = components[sensor];
                ud += (features[sensor] - rows[0][sensor]) * component;
                dd += component * component;
            }
            return (int) quotient(1000 * ud, dd);
        }

        int predict(int sensor, int time) {
            sumUp(sensor);
            long stt = line.square();
            long shift = line.cross() * (line.n * time - line.sumX);
            return (int) quotient(stt * line.sumY + shift, line.n * stt);
        }
    }

    /** The document's distance, for the sensors of a set. */
    private static final class Metric {
        private final boolean[] taken = new boolean[MAX_SENSORS];
        private final int[] direction = new int[MAX_SENSORS];
        /** The sum of the squares of the direction; 0 stands for drift that is not active. */
        private long dd;

        void aim(Drift drift, int set) {
            dd = 0;
            for (int sensor = 0; sensor < MAX_SENSORS; sensor++) {
                taken[sensor] = (set >> sensor & 1) == 1;
                direction[sensor] = drift.on && taken[sensor] ? drift.components[sensor] : 0;
                dd += (long) direction[sensor] * direction[sensor];
            }
        }

        /**
         * The distance of the means of n and m rows of features with the given sums; a measurement is
         * the sum of one row. NONE if there are no rows on one side. The greatest product, uu * dd of
         * two full classes, is 6553600 * 10^12 and fits a long.
         */
        int gap(int[] sums, int n, int[] otherSums, int m) {
            if (n <= 0 || m <= 0) {
                return NONE;
            }
            long uu = 0;
            long ud = 0;
            for (int sensor = 0; sensor < MAX_SENSORS; sensor++) {
                if (taken[sensor]) {
                    long u = (long) m * sums[sensor] - (long) n * otherSums[sensor];
                    uu += u * u;
                    ud += u * direction[sensor];
                }
            }
            // Neither dividend is ever negative, so that / rounds as the document asks.
            long scale = (long) n * m * n * m;
            if (dd == 0) {
                return (int) (uu / scale);
            }
            return (int) ((uu * dd - ud * ud) / (scale * dd));
        }
    }

    /** A class of samples. */
    private static final class Group {
        private final Store samples = new Store(SAMPLES_PER_CLASS);
        /** The features of the samples, as of the latest call of refresh. */
        private final int[][] rows = new int[SAMPLES_PER_CLASS][MAX_SENSORS];
        /** The sums of the features, and the number, of the samples that count at present. */
        private final int[] sums = new int[MAX_SENSORS];
        private int weight;

        void refresh(Converter converter) {
            weight = 0;
            for (int sensor = 0; sensor < MAX_SENSORS; sensor++) {
                sums[sensor] = 0;
            }
            for (int i = 0; i < samples.count; i++) {
                converter.fillFeatures(samples.at(i), rows[i]);
                weigh(i, 1);
            }
        }

        /** Takes a sample in by 1, out by -1: a leave-one-out test takes it out and in again. */
        void weigh(int sample, int sign) {
            weight += sign;
            for (int sensor = 0; sensor < MAX_SENSORS; sensor++) {
                sums[sensor] += sign * rows[sample][sensor];
            }
        }

        long squaresOf(int sensor) {
            long squares = 0;
            for (int i = 0; i < samples.count; i++) {
                squares += (long) rows[i][sensor] * rows[i][sensor];
            }
            return squares;
        }
    }

    /** Samples in the order of their distances; a sample's code is 10 times its class plus its number. */
    private static final class Ranking {
        private final int[] codes = new int[MAX_SAMPLES];
        private final int[] gaps = new int[MAX_SAMPLES];
        private final int[] votes = new int[MAX_CLASSES];
        private int size;

        void clear() {
            size = 0;
        }

        // Behind equal distances, so that samples put in by class and number stay in that order.
        void insert(int code, int gap) {
            if (size >= codes.length) {
                return;
            }
            int place = size;
            while (place > 0 && gaps[place - 1] > gap) {
                codes[place] = codes[place - 1];
                gaps[place] = gaps[place - 1];
                place--;
            }
            codes[place] = code;
            gaps[place] = gap;
            size++;
        }

        /** The class with the most of the first votes; NONE if there are no samples. */
        int winnerOf(int count) {
            int voters = Math.min(count, size);
            countVotes(voters);
            int winner = NONE;
            int most = 0;
            for (int i = 0; i < voters; i++) {
                int label = codes[i] / 10;
                if (votes[label] > most) {
                    winner = label;
                    most = votes[label];
                }
            }
            return winner;
        }

        private void countVotes(int voters) {
            for (int label = 0; label < MAX_CLASSES; label++) {
                votes[label] = 0;
            }
            for (int i = 0; i < voters; i++) {
                votes[codes[i] / 10]++;
            }
        }
    }

    /** Single-linkage clustering of classes; a group goes by the lowest class number in it, its head. */
    private static final class Linkage {
        private final int[][] gaps = new int[MAX_CLASSES][MAX_CLASSES];
        /** The head of each class's group; NONE for a class that takes no part. */
        private final int[] heads = new int[MAX_CLASSES];
        /** The heads and the distance of the pair found latest; the first is NONE if there was none. */
        private int first;
        private int second;
        private int gap;

        void clear() {
            for (int label = 0; label < MAX_CLASSES; label++) {
                heads[label] = NONE;
            }
        }

        void include(int label) {
            heads[label] = label;
        }

        void setGap(int low, int high, int value) {
            gaps[low][high] = value;
        }

        int pairCode() {
            return 10 * first + second;
        }

        boolean runTo(int step) {
            if (step >= MAX_CLASSES) {
                return false;
            }
            for (int done = 0; done < step; done++) {
                if (!findPair()) {
                    return false;
                }
                joinPair();
            }
            return findPair();
        }

        private boolean findPair() {
            first = NONE;
            for (int low = 0; low < MAX_CLASSES; low++) {
                for (int high = low + 1; high < MAX_CLASSES; high++) {
                    boolean apart = heads[low] != heads[high];
                    if (apart && heads[low] != NONE && heads[high] != NONE) {
                        consider(heads[low], heads[high], gaps[low][high]);
                    }
                }
            }
            return first != NONE;
        }

        private void consider(int head, int otherHead, int value) {
            int low = Math.min(head, otherHead);
            int high = Math.max(head, otherHead);
            if (first == NONE || comesFirst(low, high, value)) {
                first = low;
                second = high;
                gap = value;
            }
        }

        private boolean comesFirst(int low, int high, int value) {
            if (value != gap) {
                return value < gap;
            }
            return low != first ? low < first : high < second;
        }

        private void joinPair() {
            for (int label = 0; label < MAX_CLASSES; label++) {
                if (heads[label] == second) {
                    heads[label] = first;
                }
            }
        }
    }
}
