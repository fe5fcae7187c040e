import java.lang.reflect.InvocationTargetException;
import java.lang.reflect.Method;
import java.util.ArrayList;
import java.util.Arrays;
import java.util.List;
import java.util.Map;
import java.util.Set;
import java.util.TreeMap;

/**
 * Plays runs of calls that are written as text, such as "addClass = 0; 8 x addSample 0; vote 65 = BAD_VALUE".
 * A call without "=" may answer what it likes; arguments that are left out are 0; LOW and HIGH are the
 * least and the greatest int; what stands in brackets is a remark.
 */
final class Player {
    record Call(String text, String name, List<Object> arguments, Integer due) { }

    /** The methods that may change something when they are not refused. */
    private static final Set<String> CHANGING = Set.of("reset", "setBaseline", "measure", "addCalibration",
            "removeCalibration", "useHumidity", "addReference", "removeReference", "useDrift", "addClass",
            "addSample", "removeSample", "recall", "setMargin", "setSlack");

    private static final Map<String, Integer> NUMBERS = Map.of("NONE", -1, "NO_SUCH", -2, "BAD_VALUE", -3,
            "FULL", -4, "NOT_READY", -5, "REJECTED", -6, "LOW", Integer.MIN_VALUE, "HIGH", Integer.MAX_VALUE);

    private static final Map<String, Method> METHODS = new TreeMap<>();

    static {
        for (Method method : SensorArray.class.getMethods()) {
            METHODS.put(method.getName(), method);
        }
    }

    private final Check check;

    Player(Check check) {
        this.check = check;
    }

    /**
     * Plays a run on a new object and on a Model. Each call that is refused, or that only asks, must
     * leave everything as it was.
     */
    void play(String title, String text) {
        List<Call> calls = callsOf(text);
        SensorArray program = new SensorArray();
        Model model = new Model();
        boolean asks = false;
        for (int i = 0; i < calls.size(); i++) {
            Call call = calls.get(i);
            String what = title + ": call " + i + ", " + call.text;
            int got = answer(program, call);
            int second = answer(model, call);
            check.due(what + " (the Model's answer)", got, second);
            if (call.due != null) {
                asks = true;
                check.due(what, got, call.due);
            }
            if (isRefusal(got) || !CHANGING.contains(call.name)) {
                changesNothing(what, calls.subList(0, i), call);
            }
        }
        check.holds(title + ": the run has an answer that is due", asks);
        check.holds(title + ": no more calls than an object is used for", calls.size() <= 512);
    }

    private static boolean isRefusal(int answer) {
        return answer <= SensorArray.NO_SUCH && answer >= SensorArray.NOT_READY;
    }

    /** One of two equal objects gets the call; after it, both must still answer the same to everything. */
    private void changesNothing(String what, List<Call> before, Call call) {
        SensorArray one = new SensorArray();
        SensorArray other = new SensorArray();
        for (Call earlier : before) {
            answer(one, earlier);
            answer(other, earlier);
        }
        answer(one, call);
        String after = Reader.read(one);
        String untouched = Reader.read(other);
        check.holds(what + " changes nothing: " + after + " is " + untouched, after.equals(untouched));
    }

    static List<Call> callsOf(String text) {
        List<Call> calls = new ArrayList<>();
        for (String part : text.replaceAll("\\([^)]*\\)", " ").split(";")) {
            String[] words = part.trim().split("\\s+");
            if (words[0].isEmpty()) {
                continue;
            }
            boolean repeated = words.length > 2 && words[1].equals("x");
            int times = repeated ? Integer.parseInt(words[0]) : 1;
            Call call = callOf(repeated ? Arrays.copyOfRange(words, 2, words.length) : words);
            for (int i = 0; i < times; i++) {
                calls.add(call);
            }
        }
        return calls;
    }

    private static Call callOf(String[] words) {
        int equals = Arrays.asList(words).indexOf("=");
        int end = equals < 0 ? words.length : equals;
        Integer due = equals < 0 ? null : Integer.valueOf(number(words[equals + 1]));
        Method method = METHODS.get(words[0]);
        if (method == null || end - 1 > method.getParameterCount()) {
            throw new IllegalArgumentException(String.join(" ", words));
        }
        List<Object> arguments = new ArrayList<>();
        for (int i = 1; i < end; i++) {
            arguments.add(method.getName().startsWith("use") ? (Object) Boolean.valueOf(words[i]) : number(words[i]));
        }
        while (arguments.size() < method.getParameterCount()) {
            arguments.add(0);
        }
        return new Call(String.join(" ", words), words[0], arguments, due);
    }

    private static int number(String word) {
        Integer named = NUMBERS.get(word);
        return named != null ? named : Integer.parseInt(word);
    }

    private static int answer(Object object, Call call) {
        Method method = METHODS.get(call.name);
        try {
            Method own = object.getClass().getDeclaredMethod(call.name, method.getParameterTypes());
            return (int) own.invoke(object, call.arguments.toArray());
        } catch (InvocationTargetException thrown) {
            throw new IllegalStateException(call.text, thrown.getCause());
        } catch (ReflectiveOperationException missing) {
            throw new IllegalStateException(call.text, missing);
        }
    }
}
