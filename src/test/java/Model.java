import java.math.BigInteger;
import java.util.ArrayList;
import java.util.Comparator;
import java.util.List;

/**
 * The document once more, written as close to its words as can be and without regard to cost: numbers
 * of any size, lists, nothing kept but what was stored. RandomRunsTest holds the program against it.
 */
final class Model {
    private static final int NONE = -1;
    private static final int NO_SUCH = -2;
    private static final int BAD_VALUE = -3;
    private static final int FULL = -4;
    private static final int NOT_READY = -5;
    private static final int REJECTED = -6;

    private record Reading(int humidity, int[] raw) { }

    private record Reference(int time, Reading reading) { }

    private record Neighbour(BigInteger distance, int label, int sample) { }

    private record Join(int first, int second, BigInteger distance) { }

    private int sensors;
    private int[] baseline;
    private Reading current;
    private List<Reading> calibrations;
    private List<Reference> references;
    private List<List<Reading>> classes;
    private boolean humidityOn;
    private boolean driftOn;
    private int margin;
    private int slack;

    Model() {
        reset(2);
    }

    // ---- numbers

    private static BigInteger big(long value) {
        return BigInteger.valueOf(value);
    }

    private static BigInteger floor(BigInteger a, BigInteger b) {
        BigInteger[] parts = a.divideAndRemainder(b);
        boolean below = parts[1].signum() != 0 && parts[1].signum() != b.signum();
        return below ? parts[0].subtract(BigInteger.ONE) : parts[0];
    }

    private static BigInteger sum(List<BigInteger> values) {
        return values.stream().reduce(BigInteger.ZERO, BigInteger::add);
    }

    private static BigInteger dot(List<BigInteger> a, List<BigInteger> b) {
        BigInteger result = BigInteger.ZERO;
        for (int i = 0; i < a.size(); i++) {
            result = result.add(a.get(i).multiply(b.get(i)));
        }
        return result;
    }

    /** n * sum(a * b) - sum(a) * sum(b). */
    private static BigInteger cross(List<BigInteger> a, List<BigInteger> b) {
        return big(a.size()).multiply(dot(a, b)).subtract(sum(a).multiply(sum(b)));
    }

    // ---- sections 1 to 3

    private BigInteger ratioOf(Reading r, int k) {
        return big(Math.min(2000, 1000 * r.raw[k] / baseline[k]));
    }

    private List<BigInteger> humidities() {
        return calibrations.stream().map(c -> big(c.humidity)).toList();
    }

    private BigInteger sxx() {
        return cross(humidities(), humidities());
    }

    private BigInteger sxy(int k) {
        return cross(humidities(), calibrations.stream().map(c -> ratioOf(c, k)).toList());
    }

    private BigInteger featureOf(Reading r, int k) {
        BigInteger correction = BigInteger.ZERO;
        if (humidityOn && sxx().signum() != 0) {
            correction = floor(sxy(k).multiply(big(r.humidity - 50)), sxx());
        }
        return ratioOf(r, k).subtract(correction).max(big(-4000)).min(big(4000));
    }

    private List<BigInteger> featuresOf(Reading r) {
        List<BigInteger> result = new ArrayList<>();
        for (int k = 0; k < sensors; k++) {
            result.add(featureOf(r, k));
        }
        return result;
    }

    private List<BigInteger> times() {
        return references.stream().map(r -> big(r.time)).toList();
    }

    private List<BigInteger> referenceFeatures(int k) {
        return references.stream().map(r -> featureOf(r.reading, k)).toList();
    }

    private List<BigInteger> driftComponents() {
        List<BigInteger> g = new ArrayList<>();
        for (int k = 0; k < sensors; k++) {
            g.add(cross(times(), referenceFeatures(k)));
        }
        BigInteger m = g.stream().map(BigInteger::abs).max(Comparator.naturalOrder()).get();
        if (m.signum() == 0) {
            return g;
        }
        return g.stream().map(v -> v.multiply(big(1000)).divide(m)).toList();
    }

    // ---- section 4: the distances, with the sensors outside a set missing

    private final class Space {
        private final List<BigInteger> drift = new ArrayList<>();
        private final List<List<List<BigInteger>>> features = new ArrayList<>();
        private final int set;
        private final boolean active;

        Space(int set) {
            this.set = set;
            List<BigInteger> all = driftComponents();
            for (int k = 0; k < sensors; k++) {
                drift.add(inSet(k) ? all.get(k) : BigInteger.ZERO);
            }
            active = driftOn && drift.stream().anyMatch(d -> d.signum() != 0);
            for (List<Reading> members : classes) {
                features.add(members.stream().map(this::of).toList());
            }
        }

        private boolean inSet(int k) {
            return (set & (1 << k)) != 0;
        }

        List<BigInteger> of(Reading r) {
            List<BigInteger> result = new ArrayList<>(featuresOf(r));
            for (int k = 0; k < sensors; k++) {
                if (!inSet(k)) {
                    result.set(k, BigInteger.ZERO);
                }
            }
            return result;
        }

        private BigInteger formula(List<BigInteger> u, int n) {
            BigInteger uu = dot(u, u);
            BigInteger nn = big(n).multiply(big(n));
            if (!active) {
                return floor(uu, nn);
            }
            BigInteger ud = dot(u, drift);
            BigInteger dd = dot(drift, drift);
            return floor(uu.multiply(dd).subtract(ud.multiply(ud)), nn.multiply(dd));
        }

        private List<BigInteger> total(List<List<BigInteger>> members) {
            List<BigInteger> result = new ArrayList<>();
            for (int k = 0; k < sensors; k++) {
                int sensor = k;
                result.add(sum(members.stream().map(v -> v.get(sensor)).toList()));
            }
            return result;
        }

        /** D(x, y, n), where y is the sum of n vectors. */
        BigInteger toMean(List<BigInteger> x, List<List<BigInteger>> members) {
            int n = members.size();
            List<BigInteger> y = total(members);
            List<BigInteger> u = new ArrayList<>();
            for (int k = 0; k < sensors; k++) {
                u.add(big(n).multiply(x.get(k)).subtract(y.get(k)));
            }
            return formula(u, n);
        }

        BigInteger ofClasses(int first, int second) {
            int n1 = features.get(first).size();
            int n2 = features.get(second).size();
            List<BigInteger> y1 = total(features.get(first));
            List<BigInteger> y2 = total(features.get(second));
            List<BigInteger> u = new ArrayList<>();
            for (int k = 0; k < sensors; k++) {
                u.add(big(n2).multiply(y1.get(k)).subtract(big(n1).multiply(y2.get(k))));
            }
            return formula(u, n1 * n2);
        }

        int nearest(List<BigInteger> x, List<List<List<BigInteger>>> groups, int without) {
            int best = NONE;
            BigInteger least = null;
            for (int c = 0; c < groups.size(); c++) {
                if (c == without || groups.get(c).isEmpty()) {
                    continue;
                }
                BigInteger d = toMean(x, groups.get(c));
                if (least == null || d.compareTo(least) < 0) {
                    best = c;
                    least = d;
                }
            }
            return best;
        }

        int test(int label, int sample) {
            List<List<List<BigInteger>>> groups = new ArrayList<>(features);
            List<List<BigInteger>> rest = new ArrayList<>(features.get(label));
            List<BigInteger> x = rest.remove(sample);
            groups.set(label, rest);
            return nearest(x, groups, NONE);
        }

        int correct() {
            int count = 0;
            for (int c = 0; c < classes.size(); c++) {
                for (int i = 0; i < classes.get(c).size(); i++) {
                    count += test(c, i) == c ? 1 : 0;
                }
            }
            return count;
        }

        List<BigInteger> distancesIn(int label) {
            List<List<BigInteger>> members = features.get(label);
            return members.stream().map(x -> toMean(x, members)).toList();
        }
    }

    private int everySensor() {
        return (1 << sensors) - 1;
    }

    private Space space() {
        return new Space(everySensor());
    }

    private boolean noSensor(int sensor) {
        return sensor < 0 || sensor >= sensors;
    }

    private boolean noClass(int label) {
        return label < 0 || label >= classes.size();
    }

    private boolean noSample(int label, int sample) {
        return noClass(label) || sample < 0 || sample >= classes.get(label).size();
    }

    private boolean noSamples() {
        return classes.stream().allMatch(List::isEmpty);
    }

    // ---- the face

    int reset(int count) {
        if (count < 2 || count > 5) {
            return BAD_VALUE;
        }
        sensors = count;
        baseline = new int[] {1000, 1000, 1000, 1000, 1000};
        current = null;
        calibrations = new ArrayList<>();
        references = new ArrayList<>();
        classes = new ArrayList<>();
        humidityOn = true;
        driftOn = true;
        margin = 50;
        slack = 0;
        return count;
    }

    int sensorCount() {
        return sensors;
    }

    int setBaseline(int sensor, int value) {
        if (noSensor(sensor)) {
            return NO_SUCH;
        }
        if (value < 100 || value > 9999) {
            return BAD_VALUE;
        }
        int before = baseline[sensor];
        baseline[sensor] = value;
        return before;
    }

    int measure(int humidity, int a, int b, int c, int d, int e) {
        int[] raw = {a, b, c, d, e};
        int total = 0;
        for (int k = 0; k < 5; k++) {
            if (raw[k] < 0 || raw[k] > 9999 || k >= sensors && raw[k] != 0) {
                return BAD_VALUE;
            }
            total += raw[k];
        }
        if (humidity < 0 || humidity > 100) {
            return BAD_VALUE;
        }
        current = new Reading(humidity, raw);
        return total;
    }

    int ratio(int sensor) {
        if (noSensor(sensor)) {
            return NO_SUCH;
        }
        return current == null ? NOT_READY : ratioOf(current, sensor).intValueExact();
    }

    int feature(int sensor) {
        if (noSensor(sensor)) {
            return NO_SUCH;
        }
        return current == null ? NOT_READY : featureOf(current, sensor).intValueExact() + 10000;
    }

    int addCalibration() {
        if (current == null) {
            return NOT_READY;
        }
        if (calibrations.size() == 12) {
            return FULL;
        }
        calibrations.add(current);
        return calibrations.size();
    }

    int removeCalibration() {
        if (calibrations.isEmpty()) {
            return NO_SUCH;
        }
        calibrations.remove(calibrations.size() - 1);
        return calibrations.size();
    }

    int humiditySlope(int sensor) {
        if (noSensor(sensor)) {
            return NO_SUCH;
        }
        if (sxx().signum() == 0) {
            return NONE;
        }
        return floor(big(1000).multiply(sxy(sensor)), sxx()).add(big(10_000_000)).intValueExact();
    }

    int useHumidity(boolean on) {
        int before = humidityOn ? 1 : 0;
        humidityOn = on;
        return before;
    }

    int addReference(int time) {
        if (current == null) {
            return NOT_READY;
        }
        if (time < 0 || time > 999) {
            return BAD_VALUE;
        }
        if (!references.isEmpty() && time <= references.get(references.size() - 1).time) {
            return BAD_VALUE;
        }
        if (references.size() == 10) {
            return FULL;
        }
        references.add(new Reference(time, current));
        return references.size();
    }

    int removeReference() {
        if (references.isEmpty()) {
            return NO_SUCH;
        }
        references.remove(references.size() - 1);
        return references.size();
    }

    int driftComponent(int sensor) {
        return noSensor(sensor) ? NO_SUCH : driftComponents().get(sensor).intValueExact() + 1000;
    }

    int driftPosition() {
        if (current == null) {
            return NOT_READY;
        }
        List<BigInteger> d = driftComponents();
        if (dot(d, d).signum() == 0) {
            return NONE;
        }
        List<BigInteger> u = new ArrayList<>();
        for (int k = 0; k < sensors; k++) {
            u.add(featureOf(current, k).subtract(featureOf(references.get(0).reading, k)));
        }
        return floor(big(1000).multiply(dot(u, d)), dot(d, d)).intValueExact() + 1_000_000;
    }

    int useDrift(boolean on) {
        int before = driftOn ? 1 : 0;
        driftOn = on;
        return before;
    }

    int predictedReference(int sensor, int time) {
        if (noSensor(sensor)) {
            return NO_SUCH;
        }
        if (time < 0 || time > 999) {
            return BAD_VALUE;
        }
        if (references.size() < 2) {
            return NONE;
        }
        BigInteger n = big(references.size());
        List<BigInteger> f = referenceFeatures(sensor);
        BigInteger g = cross(times(), f);
        BigInteger stt = cross(times(), times());
        BigInteger above = stt.multiply(sum(f))
                .add(g.multiply(n.multiply(big(time)).subtract(sum(times()))));
        return floor(above, n.multiply(stt)).add(big(10_000_000)).intValueExact();
    }

    int addClass() {
        if (classes.size() == 8) {
            return FULL;
        }
        classes.add(new ArrayList<>());
        return classes.size() - 1;
    }

    int classCount() {
        return classes.size();
    }

    int addSample(int label) {
        if (noClass(label)) {
            return NO_SUCH;
        }
        if (current == null) {
            return NOT_READY;
        }
        if (classes.get(label).size() == 8) {
            return FULL;
        }
        classes.get(label).add(current);
        return classes.get(label).size() - 1;
    }

    int removeSample(int label, int sample) {
        if (noSample(label, sample)) {
            return NO_SUCH;
        }
        classes.get(label).remove(sample);
        return classes.get(label).size();
    }

    int recall(int label, int sample) {
        if (noSample(label, sample)) {
            return NO_SUCH;
        }
        current = classes.get(label).get(sample);
        return current.humidity;
    }

    int sampleCount(int label) {
        return noClass(label) ? NO_SUCH : classes.get(label).size();
    }

    int distance(int label) {
        if (noClass(label)) {
            return NO_SUCH;
        }
        if (current == null) {
            return NOT_READY;
        }
        if (classes.get(label).isEmpty()) {
            return NONE;
        }
        Space s = space();
        return s.toMean(s.of(current), s.features.get(label)).intValueExact();
    }

    int nearestClass() {
        if (current == null) {
            return NOT_READY;
        }
        Space s = space();
        return s.nearest(s.of(current), s.features, NONE);
    }

    int runnerUp() {
        if (current == null) {
            return NOT_READY;
        }
        Space s = space();
        int first = s.nearest(s.of(current), s.features, NONE);
        return first == NONE ? NONE : s.nearest(s.of(current), s.features, first);
    }

    int radius(int label) {
        if (noClass(label)) {
            return NO_SUCH;
        }
        if (classes.get(label).isEmpty()) {
            return NONE;
        }
        BigInteger r = space().distancesIn(label).stream().max(Comparator.naturalOrder()).get();
        return floor(big(100 + margin).multiply(r), big(100)).add(big(slack)).intValueExact();
    }

    int setMargin(int percent) {
        if (percent < 0 || percent > 400) {
            return BAD_VALUE;
        }
        int before = margin;
        margin = percent;
        return before;
    }

    int setSlack(int value) {
        if (value < 0 || value > 1_000_000) {
            return BAD_VALUE;
        }
        int before = slack;
        slack = value;
        return before;
    }

    int classify() {
        int nearest = nearestClass();
        if (nearest < 0) {
            return nearest;
        }
        return distance(nearest) <= radius(nearest) ? nearest : REJECTED;
    }

    int classDistance(int first, int second) {
        if (noClass(first) || noClass(second)) {
            return NO_SUCH;
        }
        if (classes.get(first).isEmpty() || classes.get(second).isEmpty()) {
            return NONE;
        }
        return space().ofClasses(first, second).intValueExact();
    }

    int closestClasses() {
        Space s = space();
        int best = NONE;
        BigInteger least = null;
        for (int i = 0; i < classes.size(); i++) {
            for (int j = i + 1; j < classes.size(); j++) {
                if (classes.get(i).isEmpty() || classes.get(j).isEmpty()) {
                    continue;
                }
                BigInteger d = s.ofClasses(i, j);
                if (least == null || d.compareTo(least) < 0) {
                    least = d;
                    best = 10 * i + j;
                }
            }
        }
        return best;
    }

    int suspectSensor() {
        if (current == null) {
            return NOT_READY;
        }
        if (noSamples()) {
            return NONE;
        }
        int best = NONE;
        BigInteger least = null;
        for (int k = 0; k < sensors; k++) {
            Space s = new Space(everySensor() - (1 << k));
            List<BigInteger> x = s.of(current);
            BigInteger d = s.toMean(x, s.features.get(s.nearest(x, s.features, NONE)));
            if (least == null || d.compareTo(least) < 0) {
                best = k;
                least = d;
            }
        }
        return best;
    }

    private List<Join> joins() {
        Space s = space();
        List<List<Integer>> groups = new ArrayList<>();
        for (int c = 0; c < classes.size(); c++) {
            if (!classes.get(c).isEmpty()) {
                groups.add(new ArrayList<>(List.of(c)));
            }
        }
        List<Join> result = new ArrayList<>();
        while (groups.size() > 1) {
            // Sorted by lowest class number, so the first pair found is the one that ties ask for.
            groups.sort(Comparator.comparing(g -> g.stream().min(Comparator.naturalOrder()).get()));
            int bestA = 0;
            int bestB = 0;
            BigInteger least = null;
            for (int a = 0; a < groups.size(); a++) {
                for (int b = a + 1; b < groups.size(); b++) {
                    BigInteger d = linkage(s, groups.get(a), groups.get(b));
                    if (least == null || d.compareTo(least) < 0) {
                        least = d;
                        bestA = a;
                        bestB = b;
                    }
                }
            }
            int first = groups.get(bestA).stream().min(Comparator.naturalOrder()).get();
            int second = groups.get(bestB).stream().min(Comparator.naturalOrder()).get();
            result.add(new Join(first, second, least));
            groups.get(bestA).addAll(groups.remove(bestB));
        }
        return result;
    }

    private static BigInteger linkage(Space s, List<Integer> one, List<Integer> other) {
        List<BigInteger> all = new ArrayList<>();
        for (int c : one) {
            for (int d : other) {
                all.add(s.ofClasses(c, d));
            }
        }
        return all.stream().min(Comparator.naturalOrder()).get();
    }

    int joinedGroups(int step) {
        if (step < 0) {
            return BAD_VALUE;
        }
        List<Join> joins = joins();
        return step < joins.size() ? 10 * joins.get(step).first + joins.get(step).second : NONE;
    }

    int joinDistance(int step) {
        if (step < 0) {
            return BAD_VALUE;
        }
        List<Join> joins = joins();
        return step < joins.size() ? joins.get(step).distance.intValueExact() : NONE;
    }

    private List<Neighbour> neighbours() {
        Space s = space();
        List<BigInteger> x = s.of(current);
        List<Neighbour> all = new ArrayList<>();
        for (int c = 0; c < classes.size(); c++) {
            for (int i = 0; i < classes.get(c).size(); i++) {
                all.add(new Neighbour(s.toMean(x, List.of(s.features.get(c).get(i))), c, i));
            }
        }
        all.sort(Comparator.comparing(Neighbour::distance)
                .thenComparing(Neighbour::label).thenComparing(Neighbour::sample));
        return all;
    }

    int nearestSample(int rank) {
        if (rank < 0) {
            return BAD_VALUE;
        }
        if (current == null) {
            return NOT_READY;
        }
        List<Neighbour> all = neighbours();
        return rank < all.size() ? 10 * all.get(rank).label + all.get(rank).sample : NONE;
    }

    int vote(int count) {
        if (count < 1 || count > 64) {
            return BAD_VALUE;
        }
        if (current == null) {
            return NOT_READY;
        }
        List<Integer> voters = neighbours().stream().limit(count).map(Neighbour::label).toList();
        int best = NONE;
        long most = 0;
        for (int c = 0; c < classes.size(); c++) {
            int label = c;
            long votes = voters.stream().filter(v -> v == label).count();
            boolean earlier = votes > 0 && votes == most && voters.indexOf(c) < voters.indexOf(best);
            if (votes > most || earlier) {
                best = c;
                most = votes;
            }
        }
        return best;
    }

    int leaveOneOut(int label, int sample) {
        return noSample(label, sample) ? NO_SUCH : space().test(label, sample);
    }

    int confusion(int label, int result) {
        if (noClass(label) || noClass(result)) {
            return NO_SUCH;
        }
        Space s = space();
        int count = 0;
        for (int i = 0; i < classes.get(label).size(); i++) {
            count += s.test(label, i) == result ? 1 : 0;
        }
        return count;
    }

    int correctCount() {
        return space().correct();
    }

    int correctWithout(int sensor) {
        return noSensor(sensor) ? NO_SUCH : new Space(everySensor() - (1 << sensor)).correct();
    }

    int correctWith(int set) {
        if (set == 0 || (set & ~everySensor()) != 0) {
            return BAD_VALUE;
        }
        return new Space(set).correct();
    }

    int bestSubset(int size) {
        if (size < 1 || size > sensors) {
            return BAD_VALUE;
        }
        int best = 0;
        int most = -1;
        for (int set = everySensor(); set > 0; set--) {
            if (Integer.bitCount(set) == size && new Space(set).correct() >= most) {
                most = new Space(set).correct();
                best = set;
            }
        }
        return best;
    }

    int leastUsefulSensor() {
        int best = 0;
        for (int k = 1; k < sensors; k++) {
            if (correctWithout(k) > correctWithout(best)) {
                best = k;
            }
        }
        return best;
    }

    int sensorScore(int sensor) {
        if (noSensor(sensor)) {
            return NO_SUCH;
        }
        if (noSamples()) {
            return NONE;
        }
        BigInteger w = BigInteger.ZERO;
        List<BigInteger> everything = new ArrayList<>();
        for (List<Reading> members : classes) {
            List<BigInteger> f = members.stream().map(r -> featureOf(r, sensor)).toList();
            everything.addAll(f);
            if (!f.isEmpty()) {
                w = w.add(floor(cross(f, f), big(f.size())));
            }
        }
        BigInteger b = floor(cross(everything, everything), big(everything.size())).subtract(w);
        if (w.signum() == 0) {
            return b.signum() > 0 ? 1_000_000 : 0;
        }
        return floor(big(1000).multiply(b), w).min(big(2_000_000_000)).intValueExact();
    }

    int outlier(int label) {
        if (noClass(label)) {
            return NO_SUCH;
        }
        if (classes.get(label).isEmpty()) {
            return NONE;
        }
        List<BigInteger> d = space().distancesIn(label);
        return d.indexOf(d.stream().max(Comparator.naturalOrder()).get());
    }
}
