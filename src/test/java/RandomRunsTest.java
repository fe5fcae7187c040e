import java.lang.reflect.InvocationTargetException;
import java.lang.reflect.Method;
import java.util.Arrays;
import java.util.Map;
import java.util.Random;
import java.util.TreeMap;
import java.util.TreeSet;

/**
 * Long runs of calls, the same in each execution, held against the Model. At the end every method must
 * have given every kind of answer that the document names for it, so that no promise goes untried.
 */
public final class RandomRunsTest {
    private static final Check CHECK = new Check("RandomRunsTest");
    private static final int RUNS = 600;
    /** What an object is used for at most. */
    private static final int CALLS = 512;

    /** For each method, the errors and other special answers that the document names. */
    private static final String[] KINDS = {
        "reset -3", "sensorCount", "setBaseline -2 -3", "measure -3", "ratio -2 -5", "feature -2 -5",
        "addCalibration -5 -4", "removeCalibration -2", "humiditySlope -1 -2", "useHumidity",
        "addReference -5 -3 -4", "removeReference -2", "driftComponent -2", "driftPosition -5 -1",
        "useDrift", "predictedReference -2 -3 -1", "addClass -4", "classCount", "addSample -2 -5 -4",
        "removeSample -2", "recall -2", "sampleCount -2", "distance -2 -5 -1", "nearestClass -5 -1",
        "runnerUp -5 -1", "radius -2 -1", "setMargin -3", "setSlack -3", "classify -5 -1 -6",
        "classDistance -2 -1", "closestClasses -1", "suspectSensor -5 -1", "joinedGroups -1 -3",
        "joinDistance -1 -3", "nearestSample -3 -5 -1", "vote -3 -5 -1", "leaveOneOut -2 -1",
        "confusion -2", "correctCount", "correctWithout -2", "correctWith -3", "bestSubset -3",
        "leastUsefulSensor", "sensorScore -2 -1", "outlier -2 -1",
    };

    private static final int[] ODD = {
        Integer.MIN_VALUE, Integer.MIN_VALUE + 1, -1000, -2, -1, 5, 6, 8, 9, 31, 32, 64, 65, 99, 101,
        401, 1000, 10000, 1000001, Integer.MAX_VALUE - 1, Integer.MAX_VALUE,
    };

    private static final int[] EDGES = {99, 100, 101, 9998, 9999, 10000};

    private static final Map<String, Method> METHODS = new TreeMap<>();
    private static final Map<String, TreeSet<Integer>> SEEN = new TreeMap<>();

    private final Random random;
    private final SensorArray program = new SensorArray();
    private final Model model = new Model();
    private final int[] scale = new int[5];
    private final int[] level = new int[5];
    /** The call that this run makes more often than others. */
    private final String favourite;
    private final int humidityKind;
    private final int baselineKind;
    private final int run;
    private int sensors = 2;
    private int time;
    private int calls;

    private RandomRunsTest(int run) {
        this.run = run;
        random = new Random(1_000_003L * run + 17);
        int[] scales = {0, 2, 5, 40, 300, 9999};
        int common = scales[random.nextInt(scales.length)];
        boolean mixed = random.nextInt(3) == 0;
        for (int k = 0; k < 5; k++) {
            scale[k] = mixed ? scales[random.nextInt(scales.length)] : common;
            level[k] = random.nextInt(10000 - scale[k]) / (random.nextBoolean() ? 1 : 20);
        }
        String[] favourites = {"addSample", "addSample", "addReference", "addCalibration"};
        favourite = favourites[random.nextInt(favourites.length)];
        humidityKind = random.nextInt(4);
        baselineKind = random.nextInt(3);
    }

    public static void main(String[] args) {
        for (Method method : SensorArray.class.getMethods()) {
            METHODS.put(method.getName(), method);
        }
        for (int run = 0; run < RUNS; run++) {
            new RandomRunsTest(run).play();
        }
        for (String kinds : KINDS) {
            String[] words = kinds.split(" ");
            CHECK.holds(words[0] + " gave an answer", SEEN.containsKey(words[0])
                    && SEEN.get(words[0]).contains(0));
            for (int i = 1; i < words.length; i++) {
                CHECK.holds(words[0] + " answered " + words[i],
                        SEEN.get(words[0]).contains(Integer.parseInt(words[i])));
            }
            CHECK.holds(words[0] + " answered nothing else", SEEN.get(words[0]).size() == words.length);
        }
        CHECK.end();
    }

    private void play() {
        if (random.nextInt(12) != 0) {
            same("reset", 2 + random.nextInt(4), 0);
        }
        int classes = random.nextInt(10);
        for (int i = 0; i < classes; i++) {
            same("addClass", 0, 0);
        }
        boolean crowded = random.nextInt(6) == 0;
        for (int i = 0; i < 90 && crowded; i++) {
            same("measure", 0, 0);
            same("addSample", i % 9, 0);
        }
        while (calls < CALLS) {
            step();
        }
    }

    private void step() {
        if (random.nextInt(3) == 0 && calls < CALLS - 1) {
            same("measure", 0, 0);
        }
        int choice = random.nextInt(KINDS.length + 8);
        String name = choice < KINDS.length ? KINDS[choice].split(" ")[0] : favourite;
        if (name.equals("reset") && random.nextInt(20) != 0) {
            name = "addSample";
        }
        same(name, argument(name), secondArgument(name));
    }

    /** Mostly in range; now and then just outside it, or far. */
    private int argument(String name) {
        if (random.nextInt(15) == 0) {
            return ODD[random.nextInt(ODD.length)];
        }
        switch (name) {
            case "setBaseline", "ratio", "feature", "humiditySlope", "driftComponent",
                 "predictedReference", "correctWithout", "sensorScore":
                return random.nextInt(sensors);
            case "reset":
                return 1 + random.nextInt(6);
            case "addReference":
                return time + random.nextInt(random.nextInt(20) == 0 ? 900 : 30);
            case "setMargin":
                return random.nextInt(10) == 0 ? 400 : random.nextInt(402);
            case "setSlack":
                return random.nextInt(3) == 0 ? 1000000 : random.nextInt(200);
            case "nearestSample":
                return random.nextInt(random.nextBoolean() ? 6 : 64);
            case "vote":
                return random.nextInt(random.nextBoolean() ? 8 : 66);
            case "correctWith":
                return random.nextInt(1 << sensors);
            case "bestSubset":
                return 1 + random.nextInt(sensors);
            default:
                return random.nextInt(9) - (random.nextInt(9) == 0 ? 1 : 0);
        }
    }

    private int secondArgument(String name) {
        if (random.nextInt(25) == 0) {
            return ODD[random.nextInt(ODD.length)];
        }
        switch (name) {
            case "setBaseline":
                return newBaseline();
            case "predictedReference":
                return random.nextInt(1000);
            case "removeSample", "recall", "leaveOneOut":
                return random.nextInt(random.nextBoolean() ? 2 : 9);
            default:
                return random.nextInt(8);
        }
    }

    private int newBaseline() {
        if (baselineKind == 0) {
            return 100 + random.nextInt(9900);
        }
        return baselineKind == 1 ? 900 + random.nextInt(200) : EDGES[random.nextInt(EDGES.length)];
    }

    private int humidity() {
        switch (humidityKind) {
            case 0:
                return 49 + random.nextInt(3);
            case 1:
                return random.nextInt(101);
            case 2:
                return 50 * random.nextInt(3) + (random.nextInt(4) == 0 ? 1 : 0);
            default:
                return 50;
        }
    }

    private int reading(int sensor) {
        if (sensor >= sensors) {
            return random.nextInt(100) == 0 ? 1 : 0;
        }
        if (random.nextInt(300) == 0) {
            return random.nextBoolean() ? -1 : 10000;
        }
        int drifting = sensor % 2 == 0 ? time / 40 : -time / 60;
        int value = level[sensor] + drifting + random.nextInt(scale[sensor] + 1);
        return Math.max(0, Math.min(value, 9999));
    }

    private void same(String name, int a, int b) {
        calls++;
        Method method = METHODS.get(name);
        Object[] arguments = {a, b};
        if (name.equals("measure")) {
            arguments = new Object[] {humidity(), reading(0), reading(1), reading(2), reading(3), reading(4)};
        } else if (name.startsWith("use")) {
            arguments = new Object[] {a % 4 != 0};
        }
        arguments = Arrays.copyOf(arguments, method.getParameterCount());
        int want = answer(model, Model.class, method, arguments);
        int got = answer(program, SensorArray.class, method, arguments);
        CHECK.due("run " + run + ": " + name + Arrays.toString(arguments), got, want);
        SEEN.computeIfAbsent(name, n -> new TreeSet<>()).add(Math.min(want, 0));
        if (name.equals("reset") && want > 0) {
            sensors = want;
            time = 0;
        }
        if (name.equals("addReference") && want > 0) {
            time = a;
        }
    }

    private static int answer(Object object, Class<?> type, Method method, Object[] arguments) {
        try {
            Method own = type.getDeclaredMethod(method.getName(), method.getParameterTypes());
            return (int) own.invoke(object, arguments);
        } catch (InvocationTargetException thrown) {
            throw new IllegalStateException(method + Arrays.toString(arguments), thrown.getCause());
        } catch (ReflectiveOperationException missing) {
            throw new IllegalStateException(missing);
        }
    }
}
