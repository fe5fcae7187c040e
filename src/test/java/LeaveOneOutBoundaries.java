/** The boundary cases of section 5 and of promises 38 to 44: leave-one-out tests and what is counted by them. */
final class LeaveOneOutBoundaries {
    /** Sensor 0 tells the two classes apart, sensor 1 misleads, sensor 2 says nothing. */
    private static final String MISLEADING = "reset 3; 2 x addClass; measure 50 100 0 500; addSample 0;"
            + "measure 50 110 400 500; addSample 0; measure 50 200 0 500; addSample 1;"
            + "measure 50 210 400 500; addSample 1;";

    private LeaveOneOutBoundaries() { }

    static void addTo(Boundaries b) {
        section5(b);
        leaveOneOut(b);
        confusion(b);
        correctCount(b);
        remainingDrift(b);
        correctWithout(b);
        correctWith(b);
        bestSubset(b);
        leastUsefulSensor(b);
    }

    private static void section5(Boundaries b) {
        b.place("Section 5");
        b.says("To test a sample, its nearest class is determined as if this sample were not in its class.",
                "2 x addClass; measure 50 100; addSample 0; measure 50 110; addSample 0; measure 50 180;",
                "addSample 0;",
                "measure 50 200; addSample 1; measure 50 220; addSample 1; (130 or 210 with it, 105 or 210 without)",
                "leaveOneOut 0 2 = 1; leaveOneOut 0 0 = 0; (the others are as before) leaveOneOut 1 0 = 1;",
                "leaveOneOut 1 1 = 1; (among equal distances, the lowest) reset 2; 3 x addClass; measure 50 100;",
                "addSample 1; measure 50 120; addSample 2; measure 50 110; addSample 2; (100 or 120)",
                "leaveOneOut 2 1 = 1; addSample 0; (110 comes first) leaveOneOut 2 1 = 0;",
                "(each sample counts once again when the next one is tested: 50, not 33, or 160 for the second 100)",
                "reset 2; 2 x addClass; measure 50 0; addSample 0; measure 50 100; 2 x addSample 0; measure 50 160;",
                "addSample 1; confusion 0 0 = 3; correctCount = 3;");
        b.says("If its class would be empty then, that class is skipped.",
                "3 x addClass; measure 50 100; addSample 0; measure 50 900; addSample 2; leaveOneOut 0 0 = 2;",
                "leaveOneOut 2 0 = 0; (a class of zeros would be nearest if it were not skipped) reset 2;",
                "2 x addClass;",
                "measure 50 0; addSample 0; measure 50 900; addSample 1; leaveOneOut 0 0 = 1; leaveOneOut 1 0 = 0;",
                "correctCount = 0; measure 50 0; addSample 0; leaveOneOut 0 0 = 0;");
        b.says("If no class remains, the test has no result.",
                "3 x addClass; measure 50 100; addSample 1; leaveOneOut 1 0 = NONE; confusion 1 0 = 0;",
                "confusion 1 1 = 0; confusion 1 2 = 0; correctCount = 0; addSample 1; leaveOneOut 1 0 = 1;",
                "leaveOneOut 1 1 = 1; removeSample 1 1; leaveOneOut 1 0 = NONE;");
        b.says("A test is correct if its result is the class of the sample.",
                "2 x addClass; measure 50 100; addSample 0; correctCount = 0; measure 50 110; addSample 0;",
                "correctCount = 2; measure 50 105; addSample 1; (105 is alone, the others are nearer to it)",
                "correctCount = 0; addSample 1; (105 lies on both means: the lowest class) correctCount = 0;",
                "removeSample 0 0; correctCount = 2;");
    }

    private static void leaveOneOut(Boundaries b) {
        b.place("Promise 38");
        b.says("- `label`: number of a class",
                "8 x addClass; measure 50 10; 2 x addSample 0; measure 50 90; 2 x addSample 7; leaveOneOut 0 1 = 0;",
                "leaveOneOut 7 1 = 7; leaveOneOut 8 0 = NO_SUCH; leaveOneOut -1 0 = NO_SUCH;");
        b.says("- `sample`: number of a sample of that class",
                "2 x addClass; measure 50 10; 7 x addSample 0; measure 50 90; addSample 0 = 7; addSample 1;",
                "leaveOneOut 0 0 = 0; leaveOneOut 0 7 = 1; leaveOneOut 0 8 = NO_SUCH; leaveOneOut 0 -1 = NO_SUCH;");
        b.says("NO_SUCH if the class or the sample does not exist",
                "leaveOneOut 0 0 = NO_SUCH; 2 x addClass; leaveOneOut 0 0 = NO_SUCH; measure 50 1; addSample 1;",
                "leaveOneOut 0 0 = NO_SUCH; leaveOneOut 2 0 = NO_SUCH; leaveOneOut -1 0 = NO_SUCH;",
                "leaveOneOut 1 1 = NO_SUCH; leaveOneOut 1 -1 = NO_SUCH; leaveOneOut LOW 0 = NO_SUCH;",
                "leaveOneOut 1 HIGH = NO_SUCH; leaveOneOut HIGH LOW = NO_SUCH; leaveOneOut 1 0 = NONE;",
                "removeSample 1 0; leaveOneOut 1 0 = NO_SUCH;");
        b.says("NONE if the test has no result.",
                "addClass; measure 50 1; addSample 0; leaveOneOut 0 0 = NONE; 7 x addClass; leaveOneOut 0 0 = NONE;",
                "addSample 7; leaveOneOut 0 0 = 7; leaveOneOut 7 0 = 0; removeSample 0 0; leaveOneOut 7 0 = NONE;");
    }

    private static void confusion(Boundaries b) {
        String samples = "8 x addClass; measure 50 100; addSample 7; measure 50 102; addSample 7; measure 50 301;"
                + "addSample 7; measure 50 300; 2 x addSample 0;";
        b.place("Promise 39");
        b.says("- `label`: number of the class of the samples",
                samples, "confusion 7 0 = 1; confusion 0 0 = 2; confusion 6 0 = 0; confusion 8 0 = NO_SUCH;",
                "confusion -1 0 = NO_SUCH;");
        b.says("- `result`: number of the class that results",
                samples, "confusion 7 7 = 2; confusion 7 0 = 1; confusion 7 6 = 0; confusion 0 7 = 0;",
                "confusion 7 8 = NO_SUCH; confusion 7 -1 = NO_SUCH;");
        b.says("NO_SUCH if a class does not exist.",
                "confusion 0 0 = NO_SUCH; 2 x addClass; confusion 0 1 = 0; measure 50 1; addSample 0;",
                "confusion 0 2 = NO_SUCH; confusion 2 0 = NO_SUCH; confusion 2 2 = NO_SUCH;",
                "confusion -1 0 = NO_SUCH;",
                "(a test without a result is not counted as -1) confusion 0 -1 = NO_SUCH; confusion LOW 0 = NO_SUCH;",
                "confusion 0 HIGH = NO_SUCH; confusion 0 0 = 0;");
    }

    private static void correctCount(Boundaries b) {
        b.place("Promise 40");
        b.says("Returns the count.",
                "correctCount = 0; 8 x addClass; correctCount = 0; measure 50 100; addSample 7; correctCount = 0;",
                "7 x addSample 7; correctCount = 8; measure 50 200; 8 x addSample 0; correctCount = 16; reset 2;",
                "(all that fit) 8 x addClass; measure 50 0; 8 x addSample 0; measure 50 100; 8 x addSample 1;",
                "measure 50 200; 8 x addSample 2; measure 50 300; 8 x addSample 3; measure 50 400; 8 x addSample 4;",
                "measure 50 500; 8 x addSample 5; measure 50 600; 8 x addSample 6; measure 50 700; 8 x addSample 7;",
                "correctCount = 64; correctWith 1 = 64; correctWith 2 = 8; correctWithout 0 = 8;");
    }

    private static void remainingDrift(Boundaries b) {
        b.place("Promise 41");
        b.says("The features and the drift component of this sensor are taken to be 0 in all distances",
                MISLEADING, "correctCount = 0; correctWithout 1 = 4; correctWithout 0 = 0; correctWithout 2 = 0;",
                "(drift along sensors 0 and 1: without 0, sensor 1 lies along it) reset 3; 2 x addClass;",
                "measure 50 100 100 50; addSample 0; measure 50 300 300 50; addSample 0; measure 50 120 100 90;",
                "addSample 1; measure 50 330 310 90; addSample 1; correctWithout 0 = 0; measure 50 500 500 500;",
                "addReference 0; measure 50 600 600 500; addReference 1; correctWithout 0 = 4; correctWithout 1 = 4;",
                "useDrift false; correctWithout 0 = 0;");
        b.says("the drift components of the other sensors stay as they are, and drift is active under the same "
                + "conditions as before, unless all remaining drift components are 0.",
                "2 x addClass; measure 50 0 100; addSample 0; measure 50 0 101; addSample 0; measure 50 0 200;",
                "addSample 1;",
                "measure 50 0 201; addSample 1; measure 50 0 100; addReference 0; correctWithout 0 = 4;",
                "(a component of 500 is left) measure 50 2 101; addReference 1; correctWithout 0 = 2;",
                "(1000 / 1999 is rounded to 0: none is left) removeReference; measure 50 1999 101; addReference 1;",
                "driftComponent 1 = 1000; correctWithout 0 = 4; (1000 / 1000 is the least that is one)",
                "removeReference; measure 50 1000 101; addReference 1; driftComponent 1 = 1001;",
                "correctWithout 0 = 2;",
                "useDrift false; correctWithout 0 = 4;");
    }

    private static void correctWithout(Boundaries b) {
        b.says("- `sensor`: number of a sensor",
                "reset 5; 2 x addClass; measure 50 0 0 0 0 100; 2 x addSample 0; measure 50 0 0 0 0 200;",
                "2 x addSample 1; correctWithout 0 = 4; correctWithout 3 = 4; correctWithout 4 = 2;",
                "correctWithout 5 = NO_SUCH; correctWithout -1 = NO_SUCH;");
        b.says("NO_SUCH if the sensor does not exist.",
                "correctWithout 2 = NO_SUCH; correctWithout -1 = NO_SUCH; correctWithout 1 = 0;", MISLEADING,
                "correctWithout 3 = NO_SUCH; correctWithout 4 = NO_SUCH; correctWithout 5 = NO_SUCH;",
                "correctWithout -1 = NO_SUCH; correctWithout 32 = NO_SUCH; correctWithout LOW = NO_SUCH;",
                "correctWithout HIGH = NO_SUCH; correctWithout 2 = 0;");
    }

    private static void correctWith(Boundaries b) {
        b.place("Promise 42");
        b.says("- `set`: sensors that remain, as a bit set (bit k for sensor k)",
                MISLEADING, "correctWith 1 = 4; correctWith 2 = 0; correctWith 3 = 0; (all equal: the lowest class)",
                "correctWith 4 = 2; correctWith 5 = 4; correctWith 6 = 0; correctWith 7 = 0; reset 5; 2 x addClass;",
                "measure 50 0 0 0 0 100; 2 x addSample 0; measure 50 0 0 0 0 200; 2 x addSample 1;",
                "correctWith 31 = 4;",
                "correctWith 16 = 4; correctWith 15 = 2; correctWith 32 = BAD_VALUE; correctWith 48 = BAD_VALUE;");
        b.says("BAD_VALUE if the set is empty or contains a sensor that does not exist.",
                "correctWith 0 = BAD_VALUE; correctWith 3 = 0; correctWith 4 = BAD_VALUE; correctWith 5 = BAD_VALUE;",
                "correctWith -1 = BAD_VALUE; correctWith -2 = BAD_VALUE;", MISLEADING, "correctWith 0 = BAD_VALUE;",
                "correctWith 8 = BAD_VALUE; correctWith 9 = BAD_VALUE; correctWith 15 = BAD_VALUE;",
                "correctWith 16 = BAD_VALUE; correctWith -1 = BAD_VALUE; correctWith -7 = BAD_VALUE;",
                "correctWith LOW = BAD_VALUE; correctWith HIGH = BAD_VALUE; correctWith 7 = 0; reset 5;",
                "correctWith 31 = 0; correctWith 32 = BAD_VALUE; correctWith 33 = BAD_VALUE;");
    }

    private static void bestSubset(Boundaries b) {
        String last = "reset 5; 2 x addClass; measure 50 0 0 0 0 100; 2 x addSample 0; measure 50 0 0 0 0 200;"
                + "2 x addSample 1;";
        b.place("Promise 43");
        b.says("among equal counts, the lowest bit set.",
                "reset 5; (all counts are 0) bestSubset 1 = 1; bestSubset 2 = 3; bestSubset 3 = 7;",
                "bestSubset 4 = 15;",
                "bestSubset 5 = 31;", last, "bestSubset 1 = 16; bestSubset 2 = 17; bestSubset 3 = 19;",
                "bestSubset 4 = 23; bestSubset 5 = 31; reset 2; 2 x addClass; measure 50 0 0; addSample 0;",
                "measure 50 400 400; addSample 0; measure 50 1 1; addSample 1; measure 50 401 401; addSample 1;",
                "(0 with each sensor; 2 without any, but there is no such set) correctWith 1 = 0; correctWith 2 = 0;",
                "bestSubset 1 = 1; bestSubset 2 = 3;");
        b.says("- `size`: number of sensors in the set, 1 to the number of sensors",
                "bestSubset 1 = 1; bestSubset 2 = 3; bestSubset 3 = BAD_VALUE; bestSubset 0 = BAD_VALUE; reset 3;",
                "bestSubset 3 = 7; bestSubset 4 = BAD_VALUE; reset 4; bestSubset 4 = 15; bestSubset 5 = BAD_VALUE;",
                "reset 5; bestSubset 1 = 1; bestSubset 5 = 31; bestSubset 6 = BAD_VALUE;", MISLEADING,
                "bestSubset 1 = 1; bestSubset 2 = 5; bestSubset 3 = 7; bestSubset 4 = BAD_VALUE;");
        b.says("BAD_VALUE if size is out of range.",
                "bestSubset 0 = BAD_VALUE; bestSubset 3 = BAD_VALUE; bestSubset -1 = BAD_VALUE;", last,
                "bestSubset 0 = BAD_VALUE; bestSubset 6 = BAD_VALUE; bestSubset -1 = BAD_VALUE;",
                "bestSubset 31 = BAD_VALUE; bestSubset 32 = BAD_VALUE; bestSubset LOW = BAD_VALUE;",
                "bestSubset HIGH = BAD_VALUE; bestSubset 5 = 31;");
    }

    private static void leastUsefulSensor(Boundaries b) {
        b.place("Promise 44");
        b.says("among equal counts, the lowest number.",
                "leastUsefulSensor = 0; reset 5; leastUsefulSensor = 0; 2 x addClass; measure 50 100; addSample 0;",
                "measure 50 110; addSample 0; measure 50 200; addSample 1; measure 50 210; addSample 1;",
                "(without 0 two, without each other four) leastUsefulSensor = 1; removeSample 1 0; removeSample 1 0;",
                "(always two) leastUsefulSensor = 0;", MISLEADING, "leastUsefulSensor = 1;",
                "reset 5; 2 x addClass; measure 50 100 0 0 0 0; addSample 0; measure 50 110 0 0 0 400; addSample 0;",
                "measure 50 200 0 0 0 0; addSample 1; measure 50 210 0 0 0 400; addSample 1; leastUsefulSensor = 4;",
                "(six with both sensors, four without either) reset 2; 3 x addClass; measure 50 0 0;",
                "2 x addSample 0;",
                "measure 50 100 0; 2 x addSample 1; measure 50 0 100; 2 x addSample 2; correctCount = 6;",
                "correctWithout 0 = 4; correctWithout 1 = 4; leastUsefulSensor = 0;");
    }
}
