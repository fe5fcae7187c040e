/** The boundary cases of section 3 and of promises 12 to 17: references, drift, positions, predictions. */
final class DriftBoundaries {
    /** Ten references at the times 0, 1, .. 8, 999; the last one alone differs, in sensor 0. */
    private static final String TEN = "measure 50 100 100; addReference 0; addReference 1; addReference 2;"
            + "addReference 3; addReference 4; addReference 5; addReference 6; addReference 7;"
            + "addReference 8 = 9; measure 50 200 100; addReference 999 = 10;";
    /** The first reference is (600, 500), the drift vector (1000, -500). */
    private static final String ASKEW =
            "measure 50 600 500; addReference 100; measure 50 620 490; addReference 200;";

    private DriftBoundaries() { }

    static void addTo(Boundaries b) {
        section3(b);
        directions(b);
        addReference(b);
        removeReference(b);
        driftComponent(b);
        driftPosition(b);
        useDrift(b);
        predictedReference(b);
        predictionErrors(b);
    }

    private static void section3(Boundaries b) {
        b.place("Section 3");
        b.says("At most 10 measurements are stored as references, each with a time from 0 to 999.",
                "measure 50 1 1; addReference -1 = BAD_VALUE; addReference 1000 = BAD_VALUE; addReference 0 = 1;",
                "addReference 1 = 2; addReference 2 = 3; addReference 3 = 4; addReference 4 = 5;",
                "addReference 5 = 6; addReference 6 = 7; addReference 7 = 8; addReference 8 = 9;",
                "addReference 998 = 10; addReference 999 = FULL; removeReference = 9; addReference 999 = 10;",
                "addReference 1000 = BAD_VALUE;");
        b.says("The time of a reference is greater than that of the reference stored before it.",
                "measure 50 1 1; addReference 500 = 1; addReference 499 = BAD_VALUE; addReference 500 = BAD_VALUE;",
                "addReference 501 = 2; addReference 500 = BAD_VALUE; addReference 501 = BAD_VALUE;",
                "removeReference = 1; addReference 500 = BAD_VALUE; addReference 501 = 2; removeReference = 1;",
                "removeReference = 0; addReference 0 = 1; addReference 0 = BAD_VALUE; addReference 999 = 2;",
                "addReference 999 = BAD_VALUE;");
        b.says("For a sensor, let n be the number of references, t the time and f the feature of a reference, "
                + "and let g = n * sum(t * f) - sum(t) * sum(f).",
                "(t 0, 1, 10, f 0, 3, 0 and 0, 0, 1: g = 9 - 33 and 30 - 11) measure 50 0 0; addReference 0;",
                "measure 50 3 0; addReference 1; measure 50 0 1; addReference 10;",
                "(-24 and 19) driftComponent 0 = 0; driftComponent 1 = 1791;",
                "(f is the feature, not the ratio) reset 2; measure 0 100 500; addCalibration; addReference 0;",
                "measure 100 200 510; addCalibration; addReference 1; driftComponent 0 = 1000;",
                "driftComponent 1 = 1000; useHumidity false; driftComponent 0 = 2000; driftComponent 1 = 1100;",
                "(all ten count)", "reset 2;", TEN, "driftComponent 0 = 2000; removeReference = 9;",
                "driftComponent 0 = 1000;");
        b.says("Let m be the greatest absolute value of g over all sensors.",
                "reset 5; measure 50 500 500 500 500 500; addReference 0; measure 50 501 499 500 502 100;",
                "addReference 1; (m is 400, of a fall, in the last sensor) driftComponent 0 = 1002;",
                "driftComponent 1 = 998; driftComponent 2 = 1000; driftComponent 3 = 1005;",
                "driftComponent 4 = 0; removeReference; measure 50 900 499 500 502 100; addReference 1;",
                "(a rise that is as great) driftComponent 0 = 2000; driftComponent 4 = 0; removeReference;",
                "measure 50 901 499 500 502 100; addReference 1; driftComponent 0 = 2000; (-997.5)",
                "driftComponent 4 = 3;");
    }

    private static void directions(Boundaries b) {
        b.says("The drift component of a sensor is g * 1000 / m, where the division truncates towards 0.",
                "reset 5; measure 50 1000 1000 1000 1000 1000; addReference 0;",
                "measure 50 1003 999 1001 998 1002; addReference 1; driftComponent 0 = 2000;",
                "(-333.3, 333.3, -666.7, 666.7) driftComponent 1 = 667; driftComponent 2 = 1333;",
                "driftComponent 3 = 334; driftComponent 4 = 1666; removeReference; setBaseline 0 500;",
                "measure 50 0 999 1001 998 1002; addReference 1; (less than 1: -0.5 and 0.5)",
                "driftComponent 0 = 0; driftComponent 1 = 1000; driftComponent 2 = 1000;",
                "(exactly -1 and 1) driftComponent 3 = 999; driftComponent 4 = 1001;");
        b.says("If m is 0, there is no drift, and all drift components are 0.",
                "reset 3; driftComponent 0 = 1000; measure 50 10 20 30; driftPosition = NONE; addReference 0;",
                "(of one reference) driftComponent 0 = 1000; driftComponent 2 = 1000; driftPosition = NONE;",
                "addReference 1; (of two equal ones) driftComponent 1 = 1000; driftPosition = NONE;",
                "removeReference; measure 50 20 20 30; addReference 1; driftComponent 0 = 2000;",
                "driftPosition = 1000010; measure 50 10 20 30; addReference 2; (up and down again)",
                "driftComponent 0 = 1000; driftPosition = NONE; addReference 3; driftComponent 0 = 0;");
        b.says("The drift correction is switched on at first.",
                "addClass;", ASKEW, "measure 50 600 500; addSample 0; measure 50 620 490; distance 0 = 0;",
                "useDrift true = 1; useDrift false = 1; distance 0 = 500; reset 2; useDrift true = 1;");
        b.says("Drift is active if it is switched on and m is not 0.",
                "addClass; measure 50 600 500; addSample 0; addReference 0; measure 50 620 490; distance 0 = 500;",
                "addReference 1; (on, m is not 0) distance 0 = 0; useDrift false; (off) distance 0 = 500;",
                "useDrift true; distance 0 = 0; removeReference; (on, m is 0) distance 0 = 500;",
                "removeReference; distance 0 = 500; useDrift false; distance 0 = 500;");
    }

    private static void addReference(Boundaries b) {
        b.place("Promise 12");
        b.says("- `time`: time of the reference, 0 to 999",
                "measure 50 1 1; addReference -1 = BAD_VALUE; addReference 0 = 1; addReference 998 = 2;",
                "addReference 1000 = BAD_VALUE; addReference 999 = 3;");
        b.says("NOT_READY if there is no current measurement",
                "addReference 0 = NOT_READY; addReference 999 = NOT_READY; addReference -1 = NOT_READY;",
                "addReference 1000 = NOT_READY; removeReference = NO_SUCH; measure 101 = BAD_VALUE;",
                "addReference 0 = NOT_READY; measure 0; addReference 0 = 1; reset 2; addReference 5 = NOT_READY;");
        b.says("BAD_VALUE if the time is out of range or not greater than the time of the latest reference",
                "measure 50 10 0; addReference -1 = BAD_VALUE; addReference 1000 = BAD_VALUE;",
                "addReference LOW = BAD_VALUE; addReference HIGH = BAD_VALUE; addReference 5 = 1;",
                "addReference 4 = BAD_VALUE; addReference 5 = BAD_VALUE; measure 50 20 0; addReference 6 = 2;",
                "addReference 6 = BAD_VALUE; addReference -1 = BAD_VALUE; addReference 1000 = BAD_VALUE;",
                "addReference 999 = 3; addReference 999 = BAD_VALUE; addReference 1000 = BAD_VALUE;");
        b.says("FULL if there are already 10 references.",
                TEN, "measure 50 0 900; addReference 999 = BAD_VALUE; removeReference = 9; measure 50 200 100;",
                "addReference 500 = 10; measure 50 0 900; addReference 501 = FULL; addReference 999 = FULL;",
                "(the time is named before) addReference 500 = BAD_VALUE; addReference 1000 = BAD_VALUE;",
                "driftComponent 0 = 2000; driftComponent 1 = 1000; removeReference = 9; addReference 501 = 10;");
    }

    private static void removeReference(Boundaries b) {
        b.place("Promise 13");
        b.says("Removes the reference that was stored latest.",
                "measure 50 100 0; addReference 0; measure 50 110 0; addReference 10; measure 50 50 0;",
                "addReference 20 = 3; driftComponent 0 = 0; removeReference = 2; driftComponent 0 = 2000;",
                "predictedReference 0 20 = 10000120; addReference 11 = 3; removeReference = 2;",
                "removeReference = 1; addReference 1 = 2; (the first is left) predictedReference 0 0 = 10000100;");
        b.says("NO_SUCH if there is none.",
                "removeReference = NO_SUCH; measure 50 1 1; removeReference = NO_SUCH; addReference 0 = 1;",
                "removeReference = 0; removeReference = NO_SUCH; removeReference = NO_SUCH; addReference 0 = 1;",
                "addReference 1 = 2; removeReference = 1;");
    }

    private static void driftComponent(Boundaries b) {
        b.place("Promise 14");
        b.says("It does not matter whether the drift correction is switched on.",
                ASKEW, "driftComponent 0 = 2000; driftComponent 1 = 500; useDrift false; driftComponent 0 = 2000;",
                "driftComponent 1 = 500;");
        b.says("- `sensor`: number of a sensor",
                "reset 5; measure 50 10 10 10 10 10; addReference 0; measure 50 11 12 13 14 20; addReference 1;",
                "driftComponent 0 = 1100; driftComponent 1 = 1200; driftComponent 2 = 1300;",
                "driftComponent 3 = 1400; driftComponent 4 = 2000; driftComponent 5 = NO_SUCH;");
        b.says("Returns the component plus 1000, 0 to 2000",
                "measure 50 2000 0; addReference 0; measure 50 0 2000; addReference 999; driftComponent 0 = 0;",
                "driftComponent 1 = 2000; removeReference; measure 50 2000 0; addReference 999;",
                "driftComponent 0 = 1000; driftComponent 1 = 1000;");
        b.says("NO_SUCH if the sensor does not exist.",
                "driftComponent 2 = NO_SUCH; driftComponent -1 = NO_SUCH;", ASKEW, "driftComponent 2 = NO_SUCH;",
                "driftComponent 4 = NO_SUCH; driftComponent 5 = NO_SUCH; driftComponent -1 = NO_SUCH;",
                "driftComponent LOW = NO_SUCH; driftComponent HIGH = NO_SUCH;");
    }

    private static void driftPosition(Boundaries b) {
        b.place("Promise 15");
        b.says("the result is 1000 * ud / dd + 1,000,000.",
                ASKEW, "driftPosition = 1000020; measure 50 600 500; driftPosition = 1000000;",
                "measure 50 601 500; (0.8) driftPosition = 1000000; measure 50 599 500; (-0.8)",
                "driftPosition = 999999; measure 50 0 2000; (-600 and 1500) driftPosition = 998920;",
                "measure 50 2000 0; (1400 and -500) driftPosition = 1001320; useDrift false;",
                "(the switch does not matter) driftPosition = 1001320;",
                "(from the first reference, not from the latest) measure 50 600 500; addReference 999 = 3;",
                "driftPosition = 1000000; reset 2; (a component of 1: 1000 * -1 / 1000001 and 1000 * 1 / 1000001)",
                "measure 50 0 100; addReference 0; measure 50 1000 101; addReference 1; measure 50 0 99;",
                "driftPosition = 999999; measure 50 0 101; driftPosition = 1000000;");
        b.says("NOT_READY if there is no current measurement",
                "driftPosition = NOT_READY; measure 101 = BAD_VALUE; driftPosition = NOT_READY;", ASKEW,
                "driftPosition = 1000020; reset 2; driftPosition = NOT_READY;");
        b.says("NONE if there is no drift.",
                "measure 50 600 500; driftPosition = NONE; addReference 0; driftPosition = NONE;",
                "measure 50 700 500; driftPosition = NONE; addReference 1; driftPosition = 1000100;",
                "measure 50 600 500; addReference 2; driftPosition = NONE; removeReference;",
                "driftPosition = 1000000; removeReference; driftPosition = NONE;");
    }

    private static void useDrift(Boundaries b) {
        b.place("Promise 16");
        b.says("- `on`: whether it is on from now on",
                "addClass;", ASKEW, "addSample 0; measure 50 600 500; useDrift false; distance 0 = 500;",
                "useDrift false; distance 0 = 500; useDrift true; distance 0 = 0; useDrift true;",
                "distance 0 = 0; useHumidity false; distance 0 = 0;");
        b.says("Returns 1 if it was on before, otherwise 0.",
                "useDrift true = 1; useDrift true = 1; useDrift false = 1; useDrift false = 0; useDrift true = 0;",
                "useDrift true = 1; useHumidity false = 1; useDrift false = 1; useHumidity false = 0;",
                "useDrift false = 0;");
    }

    private static void predictedReference(Boundaries b) {
        b.place("Promise 17");
        b.says("The result is (stt * sum(f) + g * (n * time - sum(t))) / (n * stt) + 10,000,000.",
                "(t 1, 3, 4, f 10, 11, 15: g = 21, stt = 14) measure 50 10 0; addReference 1; measure 50 11 0;",
                "addReference 3; measure 50 15 0; addReference 4; (8, 9.5, 18.5) predictedReference 0 0 = 10000008;",
                "predictedReference 0 1 = 10000009; predictedReference 0 7 = 10000018; reset 2;",
                "(the steepest there is) measure 50 0 2000; addCalibration; measure 51 2000 0; addCalibration;",
                "measure 0; addReference 998; measure 100; addReference 999;",
                "predictedReference 0 0 = 17988000; predictedReference 1 0 = 2012000;",
                "predictedReference 0 999 = 9996000; predictedReference 1 998 = 9996000; reset 2;",
                "(the measurement is not needed, ten references count)", TEN, "predictedReference 0 0 = 10000099;",
                "predictedReference 0 999 = 10000199; predictedReference 1 999 = 10000100;");
        b.says("- `sensor`: number of a sensor",
                "reset 5; measure 50 10 20 30 40 50; addReference 0; measure 50 11 22 33 44 55; addReference 1;",
                "predictedReference 0 2 = 10000012; predictedReference 1 2 = 10000024;",
                "predictedReference 2 2 = 10000036; predictedReference 3 2 = 10000048;",
                "predictedReference 4 2 = 10000060; predictedReference 5 2 = NO_SUCH;");
        b.says("- `time`: time, 0 to 999",
                "measure 50 0 999; addReference 0; measure 50 999 0; addReference 999;",
                "predictedReference 0 0 = 10000000; predictedReference 0 999 = 10000999;",
                "predictedReference 1 999 = 10000000; predictedReference 0 -1 = BAD_VALUE;",
                "predictedReference 0 1000 = BAD_VALUE;");
    }

    private static void predictionErrors(Boundaries b) {
        b.says("NO_SUCH if the sensor does not exist",
                "predictedReference 2 0 = NO_SUCH; predictedReference -1 0 = NO_SUCH;",
                "predictedReference 2 -1 = NO_SUCH;",
                ASKEW, "predictedReference 2 0 = NO_SUCH; predictedReference 5 0 = NO_SUCH;",
                "predictedReference -1 999 = NO_SUCH; predictedReference LOW 0 = NO_SUCH;",
                "predictedReference HIGH 0 = NO_SUCH; predictedReference 2 1000 = NO_SUCH;");
        b.says("BAD_VALUE if the time is out of range",
                "predictedReference 0 -1 = BAD_VALUE; predictedReference 0 1000 = BAD_VALUE;", ASKEW,
                "predictedReference 0 -1 = BAD_VALUE; predictedReference 1 1000 = BAD_VALUE;",
                "predictedReference 0 LOW = BAD_VALUE; predictedReference 0 HIGH = BAD_VALUE;",
                "predictedReference 0 0 = 10000580; predictedReference 0 999 = 10000779;");
        b.says("NONE if there are fewer than two references.",
                "predictedReference 0 0 = NONE; measure 50 7 7; predictedReference 0 0 = NONE; addReference 3 = 1;",
                "predictedReference 0 3 = NONE; predictedReference 1 999 = NONE; addReference 4 = 2;",
                "(two equal ones will do) predictedReference 0 999 = 10000007; removeReference = 1;",
                "predictedReference 0 3 = NONE; removeReference = 0; predictedReference 0 3 = NONE;");
    }
}
