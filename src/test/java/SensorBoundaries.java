/** The boundary cases of section 1 and of promises 1 to 7: sensors, baselines, measurements, ratios, features. */
final class SensorBoundaries {
    /** Slopes of 1999 and -1999: at humidity 48 the features are ratio + 3998 and ratio - 3998. */
    private static final String STEEP = "measure 50 0 1999; addCalibration; measure 51 1999 0; addCalibration;";

    private SensorBoundaries() { }

    static void addTo(Boundaries b) {
        divisions(b);
        section1(b);
        newObject(b);
        reset(b);
        sensorCount(b);
        setBaseline(b);
        measure(b);
        eachReading(b);
        ratio(b);
        feature(b);
    }

    private static void divisions(Boundaries b) {
        b.place("Description");
        b.says("Every division in this document rounds towards negative infinity, unless it says otherwise.",
                "measure 50 300 300; addCalibration; measure 53 299 301; addCalibration;",
                "(slopes -1/3 and 1/3) humiditySlope 0 = 9999666; humiditySlope 1 = 10000333;",
                "measure 51 300 300; (corrections -1/3 and 1/3) feature 0 = 10301; feature 1 = 10300;",
                "measure 49 300 300; (corrections 1/3 and -1/3) feature 0 = 10300; feature 1 = 10301;",
                "measure 53 300 300; (corrections -1 and 1) feature 0 = 10301; feature 1 = 10299;",
                "useHumidity false;",
                "measure 50 500 500; addReference 0; measure 50 501 499; addReference 3;",
                "(drift 1000, -1000) driftPosition = 1000001;",
                "measure 50 500 501; (1000 * -1000 / 2000000) driftPosition = 999999;",
                "measure 50 500 499; (1000 * 1000 / 2000000) driftPosition = 1000000;",
                "predictedReference 0 2 = 10000500; predictedReference 1 2 = 10000499;",
                "removeReference; removeReference; measure 50 0 1; addReference 1; measure 50 1 0; addReference 4;",
                "(-1/3 and 4/3) predictedReference 0 0 = 9999999; predictedReference 1 0 = 10000001;");
    }

    private static void section1(Boundaries b) {
        b.place("Section 1");
        b.says("The array has 2 to 5 sensors, numbered from 0.",
                "reset 1 = BAD_VALUE; reset 6 = BAD_VALUE;",
                "reset 2 = 2; setBaseline 0 100 = 1000; setBaseline 1 100 = 1000; setBaseline 2 100 = NO_SUCH;",
                "reset 3 = 3; setBaseline 2 100 = 1000; setBaseline 3 100 = NO_SUCH;",
                "reset 4 = 4; setBaseline 3 100 = 1000; setBaseline 4 100 = NO_SUCH;",
                "reset 5 = 5; setBaseline 4 100 = 1000; setBaseline 5 100 = NO_SUCH;",
                "setBaseline -1 100 = NO_SUCH; setBaseline 0 100 = 1000;");
        b.says("A new object has 2 sensors.",
                "sensorCount = 2; measure 50 1 1 = 2; measure 50 1 1 1 = BAD_VALUE;",
                "ratio 1 = 1; ratio 2 = NO_SUCH;");
        b.says("Each sensor has a baseline from 100 to 9999, initially 1000.",
                "reset 5 = 5; setBaseline 0 99 = BAD_VALUE; setBaseline 0 100 = 1000; setBaseline 0 101 = 100;",
                "setBaseline 4 10000 = BAD_VALUE; setBaseline 4 9999 = 1000; setBaseline 4 9998 = 9999;",
                "setBaseline 1 1000 = 1000; setBaseline 2 1000 = 1000; setBaseline 3 1000 = 1000;");
        b.says("A measurement consists of a humidity from 0 to 100 and a raw reading from 0 to 9999 for each sensor.",
                "addClass = 0; measure 0 0 9999 = 9999; addSample 0 = 0; measure 100 9999 0 = 9999;",
                "addSample 0 = 1; measure -1 5 5 = BAD_VALUE; measure 101 5 5 = BAD_VALUE;",
                "measure 50 -1 5 = BAD_VALUE; measure 50 5 10000 = BAD_VALUE; measure 50 10000 5 = BAD_VALUE;",
                "recall 0 0 = 0; ratio 0 = 0; ratio 1 = 2000; recall 0 1 = 100; ratio 0 = 2000; ratio 1 = 0;");
        b.says("The current measurement is the one that was set latest",
                "measure 50 1 2 = 3; ratio 1 = 2; measure 51 3 4 = 7; ratio 1 = 4; measure 101 5 6 = BAD_VALUE;",
                "ratio 0 = 3; ratio 1 = 4; addClass = 0; addSample 0 = 0; measure 52 7 8 = 15; recall 0 0 = 51;",
                "ratio 0 = 3; measure 0 0 0 = 0; ratio 0 = 0; recall 0 1 = NO_SUCH; ratio 0 = 0;");
        b.says("there is none at first.",
                "ratio 0 = NOT_READY; feature 1 = NOT_READY; nearestClass = NOT_READY; addCalibration = NOT_READY;",
                "measure 101 = BAD_VALUE; ratio 0 = NOT_READY; measure 0 = 0; ratio 0 = 0;");
        b.says("The ratio of a sensor in a measurement is 1000 * raw reading / baseline, but at most 2000.",
                "measure 50 1999 2000; ratio 0 = 1999; ratio 1 = 2000; measure 50 2001 9999; ratio 0 = 2000;",
                "ratio 1 = 2000; setBaseline 1 9999; ratio 1 = 1000; setBaseline 1 5000; (1999.8) ratio 1 = 1999;",
                "setBaseline 1 4999; (2000.2) ratio 1 = 2000; setBaseline 1 100; ratio 1 = 2000;",
                "measure 50 0 0; ratio 0 = 0; ratio 1 = 0; setBaseline 0 9999; measure 50 9 0; (0.9) ratio 0 = 0;",
                "measure 50 10 0; (1.0001) ratio 0 = 1; setBaseline 0 100; measure 50 199 200; ratio 0 = 1990;",
                "ratio 1 = 2000; measure 50 200 201; ratio 0 = 2000; ratio 1 = 2000;",
                "(the limit goes for calibrations too) reset 2; measure 0 9999 3000; addCalibration;",
                "measure 100 2000 2001; addCalibration; humiditySlope 0 = 10000000; humiditySlope 1 = 10000000;");
        b.says("It is always computed with the present baseline.",
                "addClass; measure 0 400 100; addSample 0; addCalibration; addReference 0;",
                "measure 100 500 100; addCalibration; addReference 1; useHumidity false; ratio 0 = 500;",
                "humiditySlope 0 = 10001000; predictedReference 0 2 = 10000600; distance 0 = 0; useDrift false;",
                "distance 0 = 10000; setBaseline 0 500 = 1000; ratio 0 = 1000; humiditySlope 0 = 10002000;",
                "predictedReference 0 2 = 10001200; distance 0 = 40000; setBaseline 0 9999 = 500; ratio 0 = 50;",
                "humiditySlope 0 = 10000100; predictedReference 0 2 = 10000060; distance 0 = 100;");
    }

    private static void newObject(Boundaries b) {
        b.place("Promise 1");
        b.says("Creates an array of 2 sensors without calibrations, references and classes.",
                "sensorCount = 2; removeCalibration = NO_SUCH; humiditySlope 1 = NONE; removeReference = NO_SUCH;",
                "driftComponent 0 = 1000; driftComponent 1 = 1000; driftComponent 2 = NO_SUCH;",
                "predictedReference 0 0 = NONE; classCount = 0; sampleCount 0 = NO_SUCH; closestClasses = NONE;",
                "correctCount = 0; sensorScore 0 = NONE; setBaseline 0 1000 = 1000; setBaseline 1 1000 = 1000;",
                "useHumidity true = 1; useDrift true = 1; setMargin 50 = 50; setSlack 0 = 0;");
        b.says("There is no current measurement.",
                "ratio 0 = NOT_READY; driftPosition = NOT_READY; classify = NOT_READY; suspectSensor = NOT_READY;");
    }

    private static void reset(Boundaries b) {
        b.place("Promise 2");
        b.says("Everything else becomes as in a new object.",
                "addClass; 2 x addClass; setBaseline 0 100; setBaseline 1 9999; measure 10 90 80; addSample 0;",
                "addCalibration; addReference 998; measure 90 80 90; addSample 2; addCalibration;",
                "addReference 999; useHumidity false; useDrift false; setMargin 400; setSlack 1000000;",
                "reset 2 = 2; classCount = 0; sampleCount 0 = NO_SUCH; ratio 0 = NOT_READY; humiditySlope 0 = NONE;",
                "removeCalibration = NO_SUCH; removeReference = NO_SUCH; useHumidity true = 1; useDrift true = 1;",
                "setMargin 50 = 50; setSlack 0 = 0; setBaseline 0 1000 = 1000; setBaseline 1 1000 = 1000;",
                "addClass = 0; sampleCount 0 = 0; recall 0 0 = NO_SUCH; ratio 0 = NOT_READY; measure 7 7 7 = 14;",
                "addReference 0 = 1; addCalibration = 1; feature 0 = 10007; addSample 0 = 0; 2 x addClass;",
                "sampleCount 2 = 0; reset 5 = 5; setBaseline 4 1000 = 1000; classCount = 0;");
        b.says("- `sensors`: number of sensors, 2 to 5",
                "reset 5 = 5; sensorCount = 5; reset 4 = 4; sensorCount = 4; reset 3 = 3; sensorCount = 3;",
                "reset 2 = 2; sensorCount = 2; reset 1 = BAD_VALUE; sensorCount = 2; reset 5 = 5;",
                "reset 6 = BAD_VALUE; sensorCount = 5;");
        b.says("BAD_VALUE if it is out of range.",
                "reset 3 = 3; addClass; measure 40 10 20 30; addSample 0; addCalibration; addReference 5;",
                "setMargin 7; setSlack 8; setBaseline 2 300; useHumidity false; useDrift false;",
                "reset 1 = BAD_VALUE; reset 6 = BAD_VALUE; reset 0 = BAD_VALUE; reset -1 = BAD_VALUE;",
                "reset -3 = BAD_VALUE; reset LOW = BAD_VALUE; reset HIGH = BAD_VALUE; sensorCount = 3;",
                "classCount = 1; ratio 2 = 100; setMargin 50 = 7; setSlack 0 = 8; setBaseline 2 1000 = 300;");
    }

    private static void sensorCount(Boundaries b) {
        b.place("Promise 3");
        b.says("Returns 2 to 5.",
                "sensorCount = 2; reset 5 = 5; sensorCount = 5; reset 6 = BAD_VALUE; sensorCount = 5;",
                "reset 2 = 2; sensorCount = 2; reset 1 = BAD_VALUE; sensorCount = 2;");
    }

    private static void setBaseline(Boundaries b) {
        b.place("Promise 4");
        b.says("- `sensor`: number of a sensor",
                "reset 4; setBaseline 0 500 = 1000; setBaseline 3 700 = 1000; setBaseline 0 1000 = 500;",
                "setBaseline 3 1000 = 700; setBaseline 1 1000 = 1000; setBaseline 2 1000 = 1000;");
        b.says("- `value`: new baseline, 100 to 9999",
                "setBaseline 1 100 = 1000; setBaseline 1 9999 = 100; setBaseline 1 99 = BAD_VALUE;",
                "setBaseline 1 10000 = BAD_VALUE; setBaseline 1 100 = 9999;");
        b.says("NO_SUCH if the sensor does not exist",
                "setBaseline 2 500 = NO_SUCH; setBaseline -1 500 = NO_SUCH; setBaseline 5 500 = NO_SUCH;",
                "setBaseline LOW 500 = NO_SUCH; setBaseline HIGH 500 = NO_SUCH; setBaseline 2 99 = NO_SUCH;",
                "(a sensor that comes to exist later is as new) reset 3; setBaseline 2 1000 = 1000;");
        b.says("BAD_VALUE if the value is out of range.",
                "setBaseline 0 300 = 1000; measure 50 30 0; setBaseline 0 99 = BAD_VALUE; ratio 0 = 100;",
                "setBaseline 0 10000 = BAD_VALUE; setBaseline 0 0 = BAD_VALUE; setBaseline 0 -100 = BAD_VALUE;",
                "setBaseline 0 LOW = BAD_VALUE; setBaseline 0 HIGH = BAD_VALUE; ratio 0 = 100;",
                "setBaseline 0 1000 = 300;");
    }

    private static void measure(Boundaries b) {
        b.place("Promise 5");
        b.says("The readings of sensors that do not exist must be 0.",
                "measure 50 1 1 1 = BAD_VALUE; measure 50 1 1 0 1 = BAD_VALUE; measure 50 1 1 0 0 1 = BAD_VALUE;",
                "ratio 0 = NOT_READY; measure 50 1 2 0 0 0 = 3; reset 3; measure 50 1 1 1 = 3;",
                "measure 50 2 2 2 1 = BAD_VALUE; measure 50 2 2 2 0 1 = BAD_VALUE; reset 4;",
                "measure 50 1 1 1 1 = 4; measure 50 2 2 2 2 1 = BAD_VALUE; ratio 0 = 1; reset 5;",
                "measure 50 1 1 1 1 1 = 5;");
        b.says("- `humidity`: humidity, 0 to 100",
                "addClass; measure 0 1 1 = 2; addSample 0; measure 100 2 2 = 4; addSample 0;",
                "measure -1 3 3 = BAD_VALUE; measure 101 3 3 = BAD_VALUE; measure LOW 3 3 = BAD_VALUE;",
                "measure HIGH 3 3 = BAD_VALUE; ratio 0 = 2; recall 0 0 = 0; recall 0 1 = 100;");
        b.says("BAD_VALUE if a parameter is out of range or a reading of a sensor that does not exist is not 0.",
                "addClass; measure 30 11 12; measure 101 1 1 = BAD_VALUE; measure 50 10000 1 = BAD_VALUE;",
                "measure 50 1 -1 = BAD_VALUE; measure 50 1 1 1 = BAD_VALUE; measure 50 1 1 -1 = BAD_VALUE;",
                "measure 50 1 1 0 0 -1 = BAD_VALUE; measure 50 1 1 0 0 LOW = BAD_VALUE;",
                "(sums that wrap around) measure 50 HIGH HIGH = BAD_VALUE; measure 50 LOW LOW = BAD_VALUE;",
                "measure 50 -5 10 = BAD_VALUE; ratio 0 = 11; ratio 1 = 12; addSample 0 = 0; recall 0 0 = 30;");
    }

    private static void eachReading(Boundaries b) {
        String[] names = {"a", "b", "c", "d", "e"};
        for (int k = 0; k < 5; k++) {
            String before = "measure 50" + " 0".repeat(k) + " ";
            b.says("- `" + names[k] + "`: reading of sensor " + k + ", 0 to 9999",
                    "reset 5; setBaseline " + k + " 9999;",
                    before + "9999 = 9999; ratio " + k + " = 1000;", before + "0 = 0; ratio " + k + " = 0;",
                    before + "5000 = 5000;", before + "-1 = BAD_VALUE;", before + "10000 = BAD_VALUE;",
                    before + "LOW = BAD_VALUE;", before + "HIGH = BAD_VALUE;", "ratio " + k + " = 500;");
        }
        b.says("Returns the sum of the readings",
                "reset 5; measure 0 0 0 0 0 0 = 0; measure 100 9999 9999 9999 9999 9999 = 49995;",
                "measure 100 1 20 300 4000 5000 = 9321;");
    }

    private static void ratio(Boundaries b) {
        b.place("Promise 6");
        b.says("- `sensor`: number of a sensor",
                "reset 5; measure 50 1 2 3 4 5; ratio 0 = 1; ratio 1 = 2; ratio 2 = 3; ratio 3 = 4; ratio 4 = 5;",
                "ratio 5 = NO_SUCH; ratio -1 = NO_SUCH;");
        b.says("Returns the ratio, 0 to 2000",
                "measure 50 0 2000; ratio 0 = 0; ratio 1 = 2000; measure 50 1 2001; ratio 0 = 1; ratio 1 = 2000;",
                "(no correction goes into it)", STEEP, "measure 0 0 1999; ratio 0 = 0; ratio 1 = 1999;");
        b.says("NO_SUCH if the sensor does not exist",
                "ratio 2 = NO_SUCH; ratio -1 = NO_SUCH; measure 50 1 1; ratio 2 = NO_SUCH; ratio 4 = NO_SUCH;",
                "ratio 5 = NO_SUCH; ratio -1 = NO_SUCH; ratio LOW = NO_SUCH; ratio HIGH = NO_SUCH;");
        b.says("NOT_READY if there is no current measurement.",
                "ratio 0 = NOT_READY; ratio 1 = NOT_READY; measure 50 -1 0 = BAD_VALUE; ratio 0 = NOT_READY;",
                "measure 50 3 3; ratio 0 = 3; reset 2; ratio 0 = NOT_READY;");
    }

    private static void feature(Boundaries b) {
        b.place("Promise 7");
        b.says("Returns the feature of a sensor in the current measurement, plus 10,000.",
                STEEP, "measure 47 1998 1998; feature 1 = 6001; measure 47 1997 1997; feature 1 = 6000;",
                "measure 47 1996 1996; feature 1 = 6000; measure 0; feature 0 = 14000; feature 1 = 6000;",
                "measure 100; feature 0 = 6000; feature 1 = 14000;");
        b.says("- `sensor`: number of a sensor",
                "reset 5; measure 50 1 2 3 4 5; feature 0 = 10001; feature 1 = 10002; feature 2 = 10003;",
                "feature 3 = 10004; feature 4 = 10005; feature 5 = NO_SUCH; feature -1 = NO_SUCH;");
        b.says("NO_SUCH if the sensor does not exist",
                "feature 2 = NO_SUCH; feature -1 = NO_SUCH; measure 50 1 1; feature 2 = NO_SUCH;",
                "feature 5 = NO_SUCH; feature -1 = NO_SUCH; feature LOW = NO_SUCH; feature HIGH = NO_SUCH;");
        b.says("NOT_READY if there is no current measurement.",
                "feature 0 = NOT_READY; feature 1 = NOT_READY; measure 101 = BAD_VALUE; feature 0 = NOT_READY;",
                "measure 0; feature 0 = 10000; reset 2; feature 0 = NOT_READY;");
    }
}
