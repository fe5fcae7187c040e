import java.io.IOException;
import java.lang.reflect.Constructor;
import java.lang.reflect.Field;
import java.lang.reflect.Method;
import java.lang.reflect.Modifier;
import java.nio.charset.StandardCharsets;
import java.nio.file.Files;
import java.nio.file.Path;
import java.util.ArrayList;
import java.util.Arrays;
import java.util.List;
import java.util.Set;
import java.util.TreeSet;
import java.util.regex.Pattern;

/** The class's face is the document's, no more and no less; and what can be seen of LANGUAGE.md's rules. */
public final class FaceTest {
    private static final Check CHECK = new Check("FaceTest");
    private static final Path SOURCE = Path.of("src/main/java/SensorArray.java");

    private static final String[] FACE = {
        "reset(int)", "sensorCount()", "setBaseline(int,int)", "measure(int,int,int,int,int,int)",
        "ratio(int)", "feature(int)", "addCalibration()", "removeCalibration()", "humiditySlope(int)",
        "useHumidity(boolean)", "addReference(int)", "removeReference()", "driftComponent(int)",
        "driftPosition()", "useDrift(boolean)", "predictedReference(int,int)", "addClass()",
        "classCount()", "addSample(int)", "removeSample(int,int)", "recall(int,int)", "sampleCount(int)",
        "distance(int)", "nearestClass()", "runnerUp()", "radius(int)", "setMargin(int)",
        "setSlack(int)", "classify()", "classDistance(int,int)", "closestClasses()", "suspectSensor()",
        "joinedGroups(int)", "joinDistance(int)", "nearestSample(int)", "vote(int)",
        "leaveOneOut(int,int)", "confusion(int,int)", "correctCount()", "correctWithout(int)",
        "correctWith(int)", "bestSubset(int)", "leastUsefulSensor()", "sensorScore(int)", "outlier(int)",
    };

    private static final String[] FORBIDDEN = {
        "\\bthrows?\\b", "\\btry\\b", "\\bcatch\\b", "\\bfinally\\b", "\\bsynchronized\\b", "\\bassert\\b",
        "\\bimport\\b", "\\bpackage\\b", "->", "::", "\\bstatic\\s*\\{", "\\w+Exact\\b", "\\bObject\\b",
        "\\bhashCode\\b", "\\btoString\\b", "\\bSystem\\.(?!arraycopy)", "\\bThread\\b", "\\bRandom\\b",
        "\\bdouble\\b", "\\bfloat\\b", "\\bprotected\\b", "\\bnative\\b", "\\bvolatile\\b",
    };

    public static void main(String[] args) throws IOException {
        constants();
        face();
        for (Class<?> type : classes()) {
            staticFields(type);
            sizes(type);
            names(type);
        }
        CHECK.holds("at most twelve classes", classes().size() <= 12);
        source();
        CHECK.end();
    }

    private static List<Class<?>> classes() {
        List<Class<?>> all = new ArrayList<>(List.of(SensorArray.class));
        all.addAll(Arrays.asList(SensorArray.class.getDeclaredClasses()));
        return all;
    }

    private static void constants() {
        CHECK.due("NONE", SensorArray.NONE, -1);
        CHECK.due("NO_SUCH", SensorArray.NO_SUCH, -2);
        CHECK.due("BAD_VALUE", SensorArray.BAD_VALUE, -3);
        CHECK.due("FULL", SensorArray.FULL, -4);
        CHECK.due("NOT_READY", SensorArray.NOT_READY, -5);
        CHECK.due("REJECTED", SensorArray.REJECTED, -6);
        Set<String> open = new TreeSet<>();
        for (Field field : SensorArray.class.getDeclaredFields()) {
            if (!Modifier.isPrivate(field.getModifiers())) {
                open.add(field.getName());
                CHECK.holds(field + " is a constant", Modifier.isPublic(field.getModifiers())
                        && Modifier.isStatic(field.getModifiers())
                        && Modifier.isFinal(field.getModifiers()) && field.getType() == int.class);
            }
        }
        CHECK.holds("the constants of the face: " + open, open.equals(new TreeSet<>(
                List.of("NONE", "NO_SUCH", "BAD_VALUE", "FULL", "NOT_READY", "REJECTED"))));
    }

    private static void face() {
        int modifiers = SensorArray.class.getModifiers();
        CHECK.holds("public and final", Modifier.isPublic(modifiers) && Modifier.isFinal(modifiers));
        Constructor<?>[] constructors = SensorArray.class.getDeclaredConstructors();
        CHECK.holds("one public constructor without parameters", constructors.length == 1
                && Modifier.isPublic(constructors[0].getModifiers())
                && constructors[0].getParameterCount() == 0);
        Set<String> open = new TreeSet<>();
        for (Method method : SensorArray.class.getDeclaredMethods()) {
            if (!Modifier.isPrivate(method.getModifiers())) {
                String shown = method.toString();
                CHECK.holds(shown + " is public, and answers an int", Modifier.isPublic(method.getModifiers())
                        && !Modifier.isStatic(method.getModifiers()) && method.getReturnType() == int.class);
                open.add(shown.substring(shown.indexOf("SensorArray.") + "SensorArray.".length()));
            }
        }
        CHECK.holds("the methods of the face: " + open, open.equals(new TreeSet<>(List.of(FACE))));
        CHECK.due("their number", open.size(), 45);
    }

    private static void staticFields(Class<?> type) {
        if (type != SensorArray.class) {
            CHECK.holds(type + " is static", Modifier.isStatic(type.getModifiers()));
            CHECK.holds(type + " is not public", !Modifier.isPublic(type.getModifiers())
                    && !Modifier.isProtected(type.getModifiers()));
            CHECK.due(type + ": classes inside it", type.getDeclaredClasses().length, 0);
        }
        for (Field field : type.getDeclaredFields()) {
            if (Modifier.isStatic(field.getModifiers())) {
                CHECK.holds(field + " is a constant number", Modifier.isFinal(field.getModifiers())
                        && (field.getType() == int.class || field.getType() == long.class));
            }
        }
    }

    private static void sizes(Class<?> type) {
        int fields = 0;
        for (Field field : type.getDeclaredFields()) {
            fields += Modifier.isStatic(field.getModifiers()) ? 0 : 1;
        }
        CHECK.holds(type + " has at most twenty fields", fields <= 20);
        for (Method method : type.getDeclaredMethods()) {
            CHECK.holds(method + " takes at most seven parameters", method.getParameterCount() <= 7);
        }
        for (Constructor<?> constructor : type.getDeclaredConstructors()) {
            CHECK.holds(constructor + " takes at most seven", constructor.getParameterCount() <= 7);
        }
    }

    /** No other method bears the name of a public one, in the classes inside neither. */
    private static void names(Class<?> type) {
        Set<String> taken = new TreeSet<>();
        for (String method : FACE) {
            taken.add(method.substring(0, method.indexOf('(')));
        }
        for (Method method : type.getDeclaredMethods()) {
            boolean own = type != SensorArray.class || Modifier.isPrivate(method.getModifiers());
            CHECK.holds(method + " has a name of its own", !own || !taken.contains(method.getName()));
        }
    }

    private static void source() throws IOException {
        String text = Files.readString(SOURCE, StandardCharsets.UTF_8);
        CHECK.holds("signs 1 to 127 alone", text.chars().allMatch(c -> c > 0 && c < 128));
        String code = text.replaceAll("(?s)/\\*.*?\\*/", "").replaceAll("//[^\n]*", "");
        for (String words : FORBIDDEN) {
            CHECK.holds("no " + words, !Pattern.compile(words).matcher(code).find());
        }
    }
}
