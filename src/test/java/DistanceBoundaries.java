/** The boundary cases of section 4 on distances, and of promises 24 to 33. */
final class DistanceBoundaries {
    /** Features of 4000 at humidity 0 and of -4000 at humidity 100, in all five sensors. */
    private static final String WIDE = "reset 5; measure 50; addCalibration;"
            + "measure 51 2000 2000 2000 2000 2000; addCalibration;";
    /** Drift along (1000, 500). */
    private static final String DRIFT =
            "measure 50 100 100; addReference 0; measure 50 120 110; addReference 5;";

    private DistanceBoundaries() { }

    static void addTo(Boundaries b) {
        formula(b);
        distances(b);
        radii(b);
        distance(b);
        nearestClass(b);
        runnerUp(b);
        radius(b);
        settings(b);
        classify(b);
        classDistance(b);
        closestClasses(b);
        suspectSensor(b);
    }

    private static void formula(Boundaries b) {
        b.place("Section 4");
        b.says("For two vectors of features x and y and a positive number n let u = n * x - y (component by "
                + "component), let uu be the sum of the squares of the components of u, ud the sum of the "
                + "products of the components of u and the drift components, and dd the sum of the squares of "
                + "the drift components.",
                "reset 5; addClass; measure 50 1 2 3 4 5; addSample 0; measure 50 2 4 6 8 10;",
                "(1 + 4 + 9 + 16 + 25) distance 0 = 55; addSample 0; measure 50 0 0 0 0 0;",
                "(u = -3 * [1, 2, 3, 4, 5]: 495 / 4) distance 0 = 123; addReference 0; measure 50 10 0 0 0 20;",
                "addReference 1; measure 50 0 0 0 0 0; (d = 500 and 1000 in the first and the last: ud = -16500,",
                "dd = 1250000: [495 - 217.8] / 4) distance 0 = 69;");
        b.says("The distance D(x, y, n) is uu / (n * n) if drift is not active, and (uu * dd - ud * ud) / (n * "
                + "n * dd) if drift is active.",
                "addClass;", DRIFT, "measure 50 100 100; addSample 0; measure 50 103 100; (9 - 7.2) distance 0 = 1;",
                "useDrift false; distance 0 = 9; useDrift true; measure 50 101 100; (0.2) distance 0 = 0;",
                "measure 50 102 101; (along the drift) distance 0 = 0; measure 50 200 150; distance 0 = 0;",
                "measure 50 101 98; (across it) distance 0 = 5; measure 50 99 102; distance 0 = 5;",
                "(the quotient is rounded down) reset 2; addClass; measure 50 0 0;",
                "addSample 0; measure 50 1 1; addSample 0; measure 50 0 0; (2 / 4) distance 0 = 0;",
                "measure 50 2 1; (10 / 4) distance 0 = 2; measure 50 1 1; addSample 0; (2 / 9) distance 0 = 0;",
                "measure 50 1 0; (5 / 9) distance 0 = 0; measure 50 2 1; (17 / 9) distance 0 = 1;");
        b.says("The distance of a measurement to a class that is not empty is D(x, y, n), where x are the "
                + "features of the measurement, y is the sum of the features of the samples of the class, and n "
                + "is the number of its samples.",
                WIDE, "addClass; measure 0; 8 x addSample 0; distance 0 = 0; measure 100;",
                "(the greatest there is) distance 0 = 320000000; removeSample 0 0; addSample 0 = 7;",
                "(5 * 7000 * 7000) distance 0 = 245000000; measure 0; (5 * 1000 * 1000) distance 0 = 5000000;",
                "7 x removeSample 0 0; (one is left) distance 0 = 320000000; removeSample 0 0; distance 0 = NONE;");
    }

    private static void distances(Boundaries b) {
        b.says("The distance of a measurement to a sample is D(x, y, 1), where y are the features of the sample.",
                "2 x addClass; measure 50 0 0; addSample 0; measure 50 100 0; addSample 0; measure 50 60 0;",
                "addSample 1; measure 50 51 0; (the class is nearer, its samples are not) nearestClass = 0;",
                "nearestSample 0 = 10; nearestSample 1 = 1; nearestSample 2 = 0; vote 1 = 1; reset 2;",
                "(across the drift, 1.8 and 1 are both 1) 2 x addClass;", DRIFT,
                "measure 50 102 100; addSample 1; measure 50 103 100; addSample 0; measure 50 100 100;",
                "nearestSample 0 = 10; nearestSample 1 = 0; measure 50 101 100; (0.2 and 0.8)",
                "nearestSample 0 = 0; nearestSample 1 = 10;");
        b.says("The distance of two classes that are not empty, with n1 and n2 samples and feature sums y1 and "
                + "y2, is the value of the same formula with u = n2 * y1 - n1 * y2 and n = n1 * n2.",
                "2 x addClass; measure 50 10 10; addSample 0; measure 50 11 10; addSample 0; measure 50 20 30;",
                "addSample 1; measure 50 20 31; addSample 1; measure 50 20 33; addSample 1;",
                "(u = -57, -128: 19633 / 36) classDistance 0 1 = 545; classDistance 1 0 = 545;",
                "measure 50 0 0; addReference 0; measure 50 0 1; addReference 1; (3249 / 36)",
                "classDistance 0 1 = 90;", WIDE, "2 x addClass; measure 0; 8 x addSample 0; measure 100;",
                "8 x addSample 1; classDistance 0 1 = 320000000; measure 50 1000 1000 1000 1000 1000;",
                "addReference 0; measure 50 1001 1001 1001 999 999; addReference 1;",
                "(the greatest product of all: 320000000 * 24 / 25) classDistance 1 0 = 307200000;");
        b.says("The nearest class of a measurement is the class that is not empty and has the smallest distance "
                + "to it",
                "3 x addClass; measure 50 100 0; nearestClass = NONE; addSample 2; measure 50 0 0; nearestClass = 2;",
                "measure 50 70 0; addSample 1; measure 50 86 0; nearestClass = 2; measure 50 84 0;",
                "nearestClass = 1; removeSample 1 0; nearestClass = 2; (a class whose mean is 0 is not an empty one)",
                "measure 50 0 0; addSample 0; measure 50 49 0; nearestClass = 0;");
        b.says("among equal distances, the lowest number.",
                "4 x addClass; measure 50 110 100; addSample 3; measure 50 90 100; addSample 2; measure 50 100 90;",
                "addSample 1; measure 50 100 100; nearestClass = 1; removeSample 1 0; nearestClass = 2;",
                "measure 50 101 100; nearestClass = 3; (0.25 and 0 are equal when rounded) measure 50 100 100;",
                "addSample 1; addSample 0; measure 50 101 100; addSample 0; measure 50 100 100; distance 0 = 0;",
                "distance 1 = 0; nearestClass = 0;");
    }

    private static void radii(Boundaries b) {
        b.says("The radius of a class that is not empty is (100 + margin) * r / 100 + slack, where r is the "
                + "greatest distance of its samples to the class.",
                "addClass; measure 50 100 0; addSample 0; (r is 0) radius 0 = 0; measure 50 102 0; addSample 0;",
                "(r is 1: 1.5) radius 0 = 1; setMargin 99; (1.99) radius 0 = 1; setMargin 100; radius 0 = 2;",
                "setMargin 0; radius 0 = 1; setSlack 1000000; radius 0 = 1000001; setMargin 400;",
                "radius 0 = 1000005; measure 50 116 0; addSample 0; (36, 16 and 100) setSlack 0; radius 0 = 500;",
                WIDE, "addClass; measure 0; 7 x addSample 0; measure 100; addSample 0; setMargin 400;",
                "setSlack 1000000; (the greatest there is) radius 0 = 1226000000;");
        b.says("The margin is a setting from 0 to 400, initially 50.",
                "setMargin 50 = 50; setMargin -1 = BAD_VALUE; setMargin 0 = 50; setMargin 401 = BAD_VALUE;",
                "setMargin 400 = 0; setMargin 401 = BAD_VALUE; setMargin 1 = 400; reset 2; setMargin 0 = 50;");
        b.says("The slack is a setting from 0 to 1,000,000, initially 0.",
                "setSlack 0 = 0; setSlack -1 = BAD_VALUE; setSlack 1000001 = BAD_VALUE; setSlack 1000000 = 0;",
                "setSlack 1000001 = BAD_VALUE; setSlack 1 = 1000000; reset 2; setSlack 0 = 0;");
    }

    private static void distance(Boundaries b) {
        b.place("Promise 24");
        b.says("- `label`: number of a class",
                "8 x addClass; measure 50 100 0; addSample 0; measure 50 103 0; addSample 7; distance 0 = 9;",
                "distance 7 = 0; distance 8 = NO_SUCH; distance -1 = NO_SUCH; distance 6 = NONE;");
        b.says("NO_SUCH if the class does not exist",
                "distance 0 = NO_SUCH; addClass; distance 1 = NO_SUCH; measure 50 1 1; addSample 0;",
                "distance 1 = NO_SUCH; distance 8 = NO_SUCH; distance -1 = NO_SUCH; distance LOW = NO_SUCH;",
                "distance HIGH = NO_SUCH; distance 0 = 0;");
        b.says("NOT_READY if there is no current measurement",
                "addClass; distance 0 = NOT_READY; measure 101 = BAD_VALUE; distance 0 = NOT_READY;",
                "recall 0 0 = NO_SUCH; distance 0 = NOT_READY; measure 0; distance 0 = NONE;");
        b.says("NONE if the class is empty.",
                "2 x addClass; measure 50 0 0; distance 0 = NONE; addSample 1; distance 0 = NONE; distance 1 = 0;",
                "removeSample 1 0; distance 1 = NONE; addSample 0; distance 0 = 0; distance 1 = NONE;");
    }

    private static void nearestClass(Boundaries b) {
        b.place("Promise 25");
        b.says("NOT_READY if there is no current measurement",
                "nearestClass = NOT_READY; 2 x addClass; nearestClass = NOT_READY; measure 50 -1 = BAD_VALUE;",
                "nearestClass = NOT_READY; measure 50 1 1; nearestClass = NONE; reset 2; nearestClass = NOT_READY;");
        b.says("NONE if all classes are empty.",
                "measure 50 1 1; nearestClass = NONE; addClass; nearestClass = NONE; 7 x addClass;",
                "nearestClass = NONE; addSample 7; nearestClass = 7; removeSample 7 0; nearestClass = NONE;",
                "addSample 0; nearestClass = 0;");
    }

    private static void runnerUp(Boundaries b) {
        b.place("Promise 26");
        b.says("Returns the class with the second smallest distance to the current measurement: the nearest "
                + "class if the class returned by nearestClass did not exist.",
                "4 x addClass; measure 50 100 0; addSample 1; measure 50 120 0; addSample 2; measure 50 120 0;",
                "addSample 3; measure 50 110 0; (all equal) nearestClass = 1; runnerUp = 2; measure 50 111 0;",
                "(two equal in front) nearestClass = 2; runnerUp = 3; measure 50 109 0; (two equal behind)",
                "nearestClass = 1; runnerUp = 2; removeSample 2 0; runnerUp = 3;");
        b.says("NOT_READY if there is no current measurement",
                "runnerUp = NOT_READY; 2 x addClass; runnerUp = NOT_READY; measure 50 10000 = BAD_VALUE;",
                "runnerUp = NOT_READY; measure 50 1 1; runnerUp = NONE; reset 2; runnerUp = NOT_READY;");
        b.says("NONE if fewer than two classes are not empty.",
                "measure 50 1 1; runnerUp = NONE; 8 x addClass; runnerUp = NONE; addSample 7; nearestClass = 7;",
                "runnerUp = NONE; addSample 7; runnerUp = NONE; addSample 0; nearestClass = 0; runnerUp = 7;",
                "removeSample 0 0; runnerUp = NONE;");
    }

    private static void radius(Boundaries b) {
        b.place("Promise 27");
        b.says("- `label`: number of a class",
                "8 x addClass; measure 50 100 0; addSample 7; measure 50 120 0; addSample 7; addSample 0;",
                "radius 7 = 150; radius 0 = 0; radius 8 = NO_SUCH; radius -1 = NO_SUCH; radius 6 = NONE;");
        b.says("NO_SUCH if the class does not exist",
                "radius 0 = NO_SUCH; radius -1 = NO_SUCH; addClass; radius 1 = NO_SUCH; radius 0 = NONE;",
                "radius 8 = NO_SUCH; radius LOW = NO_SUCH; radius HIGH = NO_SUCH;");
        b.says("NONE if the class is empty.",
                "addClass; setSlack 5; radius 0 = NONE; measure 50 1 1; radius 0 = NONE; addSample 0; radius 0 = 5;",
                "removeSample 0 0; radius 0 = NONE;");
    }

    private static void settings(Boundaries b) {
        b.place("Promise 28");
        b.says("- `percent`: new margin, 0 to 400",
                "addClass; measure 50 100 0; addSample 0; measure 50 120 0; addSample 0; setMargin 0 = 50;",
                "radius 0 = 100; setMargin 400 = 0; radius 0 = 500; setMargin -1 = BAD_VALUE;",
                "setMargin 401 = BAD_VALUE; radius 0 = 500; setMargin 399 = 400; radius 0 = 499;");
        b.says("BAD_VALUE if it is out of range.",
                "setMargin 7 = 50; setMargin -1 = BAD_VALUE; setMargin 401 = BAD_VALUE; setMargin LOW = BAD_VALUE;",
                "setMargin HIGH = BAD_VALUE; setMargin 0 = 7; setSlack 0 = 0;");
        b.place("Promise 29");
        b.says("- `slack`: new slack, 0 to 1,000,000",
                "addClass; measure 50 100 0; addSample 0; setSlack 1000000 = 0; radius 0 = 1000000;",
                "setSlack 1000001 = BAD_VALUE; setSlack -1 = BAD_VALUE; radius 0 = 1000000; setSlack 0 = 1000000;",
                "radius 0 = 0; setSlack 999999 = 0; radius 0 = 999999;");
        b.says("BAD_VALUE if it is out of range.",
                "setSlack 7 = 0; setSlack -1 = BAD_VALUE; setSlack 1000001 = BAD_VALUE; setSlack LOW = BAD_VALUE;",
                "setSlack HIGH = BAD_VALUE; setSlack 0 = 7; setMargin 50 = 50;");
    }

    private static void classify(Boundaries b) {
        b.place("Promise 30");
        b.says("Classifies the current measurement: its nearest class, if its distance to that class is at most "
                + "the radius of that class.",
                "addClass; measure 50 100 100; addSample 0; (0 and 0) classify = 0; setSlack 4; measure 50 102 100;",
                "(4 and 4) classify = 0; measure 50 102 101; (5 and 4) classify = REJECTED; setSlack 5;",
                "(5 and 5) classify = 0; setSlack 6; classify = 0;");
        b.says("NOT_READY if there is no current measurement",
                "classify = NOT_READY; addClass; classify = NOT_READY; measure 101 = BAD_VALUE;",
                "classify = NOT_READY; measure 50 1 1; classify = NONE; reset 2; classify = NOT_READY;");
        b.says("NONE if all classes are empty",
                "measure 50 1 1; setSlack 1000000; classify = NONE; 8 x addClass; classify = NONE; addSample 7;",
                "classify = 7; removeSample 7 0; classify = NONE;");
        b.says("REJECTED if the distance is greater than the radius.",
                "2 x addClass; measure 50 100 100; addSample 1; measure 50 101 100; (1 and 0) classify = REJECTED;",
                "setSlack 1; classify = 1; setSlack 0; measure 50 0 0; addSample 0; measure 50 400 400; addSample 0;",
                "(a class farther away would take it) measure 50 110 110; nearestClass = 1; distance 0 = 16200;",
                "radius 0 = 120000; classify = REJECTED; removeSample 1 0; classify = 0;");
    }

    private static void classDistance(Boundaries b) {
        b.place("Promise 31");
        b.says("- `first`: number of a class",
                "8 x addClass; measure 50 100 0; addSample 0; measure 50 103 0; addSample 7;",
                "classDistance 0 7 = 9; classDistance 7 0 = 9; classDistance 8 0 = NO_SUCH;",
                "classDistance -1 0 = NO_SUCH; classDistance 6 0 = NONE;");
        b.says("- `second`: number of a class",
                "8 x addClass; measure 50 100 0; addSample 0; measure 50 103 0; addSample 7;",
                "classDistance 7 7 = 0; classDistance 7 0 = 9; classDistance 0 8 = NO_SUCH;",
                "classDistance 0 -1 = NO_SUCH; classDistance 0 6 = NONE;");
        b.says("it may be the same",
                "2 x addClass; classDistance 0 0 = NONE; measure 50 100 0; addSample 0; measure 50 203 0;",
                "addSample 0;",
                "classDistance 0 0 = 0; classDistance 1 1 = NONE; classDistance 2 2 = NO_SUCH;");
        b.says("NO_SUCH if a class does not exist",
                "classDistance 0 0 = NO_SUCH; 2 x addClass; measure 50 1 1; addSample 0; addSample 1;",
                "classDistance 0 2 = NO_SUCH; classDistance 2 0 = NO_SUCH; classDistance 2 2 = NO_SUCH;",
                "classDistance -1 0 = NO_SUCH; classDistance 0 -1 = NO_SUCH; classDistance LOW 1 = NO_SUCH;",
                "classDistance 1 HIGH = NO_SUCH; removeSample 0 0; (an empty class does not come first)",
                "classDistance 0 2 = NO_SUCH; classDistance 2 0 = NO_SUCH;");
        b.says("NONE if a class is empty.",
                "3 x addClass; classDistance 0 1 = NONE; measure 50 1 1; addSample 0; classDistance 0 1 = NONE;",
                "classDistance 1 0 = NONE; addSample 1; classDistance 0 1 = 0; classDistance 1 2 = NONE;",
                "removeSample 0 0; classDistance 0 1 = NONE; classDistance 1 0 = NONE; classDistance 0 0 = NONE;");
    }

    private static void closestClasses(Boundaries b) {
        b.place("Promise 32");
        b.says("among equal distances, the pair with the lowest first class, then with the lowest second class "
                + "(the first class has the lower number).",
                "5 x addClass; measure 50 100 0; addSample 4; measure 50 110 0; addSample 3; closestClasses = 34;",
                "measure 50 500 0; addSample 1; measure 50 510 0; addSample 2; (12 and 34) closestClasses = 12;",
                "measure 50 90 0; addSample 0; (04, 12 and 34) closestClasses = 4; removeSample 0 0;",
                "measure 50 500 10; addSample 0; (01, 12 and 34) closestClasses = 1; reset 2; 4 x addClass;",
                "measure 50 100 0; addSample 0; measure 50 110 0; addSample 3; measure 50 90 0; addSample 2;",
                "(02 and 03) closestClasses = 2; measure 50 100 10; addSample 1; (01, 02 and 03)",
                "closestClasses = 1; removeSample 0 0; (all farther, 12 and 13 equal) closestClasses = 12;");
        b.says("NONE if fewer than two classes are not empty.",
                "closestClasses = NONE; 8 x addClass; closestClasses = NONE; measure 50 1 1; addSample 6;",
                "closestClasses = NONE; addSample 6; closestClasses = NONE; addSample 7; closestClasses = 67;",
                "removeSample 7 0; closestClasses = NONE;");
    }

    private static void suspectSensor(Boundaries b) {
        b.place("Promise 33");
        b.says("For each sensor, the distance of the current measurement to its nearest class is computed as if "
                + "this sensor were missing (see correctWithout",
                "addClass; measure 50 100 100; addSample 0; addReference 0; measure 50 900 100; addReference 1;",
                "(drift along sensor 0 alone: 9 without 0, when none is left, and 0 without 1) measure 50 700 103;",
                "suspectSensor = 1; useDrift false; (9 and 360000) suspectSensor = 0; useDrift true;",
                "(a component of 1000 / 1999 is none, one of 1000 / 999 is) removeReference; removeReference;",
                "measure 50 0 100; addReference 0;",
                "measure 50 1999 101; addReference 1; measure 50 100 103; suspectSensor = 1;",
                "removeReference; measure 50 999 101; addReference 1; measure 50 101 103; suspectSensor = 0;");
        b.says("The sensor with the smallest such distance is returned",
                "reset 5; addClass; measure 50 10 10 10 10 10; addSample 0; measure 50 15 16 14 16 17;",
                "suspectSensor = 4;",
                "measure 50 5 4 17 4 16; suspectSensor = 2; (all that remain are taken together) addClass;",
                "measure 50 10 10 90 90 90; addSample 1; measure 50 10 10 10 90 90; suspectSensor = 2;");
        b.says("the nearest class may differ from sensor to sensor).",
                "reset 3; 2 x addClass; measure 50 100 200 300; addSample 1; measure 50 500 500 900; addSample 0;",
                "measure 50 501 500 303; nearestClass = 1; (without 2, class 0 is at 1) suspectSensor = 2;");
        b.says("among equal distances, the lowest number.",
                "reset 5; addClass; measure 50 10 10 10 10 10; addSample 0; suspectSensor = 0;",
                "measure 50 10 15 10 15 15; suspectSensor = 1; measure 50 10 15 10 5 16; suspectSensor = 4;",
                "measure 50 10 10 10 10 15; suspectSensor = 4; measure 50 15 10 10 10 5; suspectSensor = 0;");
        b.says("NOT_READY if there is no current measurement",
                "suspectSensor = NOT_READY; addClass; suspectSensor = NOT_READY; measure 101 = BAD_VALUE;",
                "suspectSensor = NOT_READY; measure 50 1 1; suspectSensor = NONE; reset 2;",
                "suspectSensor = NOT_READY;");
        b.says("NONE if all classes are empty.",
                "measure 50 1 1; suspectSensor = NONE; 8 x addClass; suspectSensor = NONE; addSample 7;",
                "suspectSensor = 0; removeSample 7 0; suspectSensor = NONE;");
    }
}
