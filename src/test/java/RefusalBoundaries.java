/**
 * The boundary cases of section 7. The Player holds for every refused call that nothing has changed; here
 * every call that can be refused is refused in objects that hold little, some and as much as fits.
 */
final class RefusalBoundaries {
    private static final String UNMEASURED = "reset 3; 3 x addClass; setMargin 7; setSlack 9; setBaseline 0 900;"
            + "useDrift false; useHumidity false;";

    private static final String SOME = "3 x addClass; setBaseline 0 900; setBaseline 1 1100; measure 10 100 200;"
            + "addCalibration; addReference 10; addSample 0; measure 90 150 180; addCalibration; addSample 0;"
            + "addReference 20; measure 40 130 260; addReference 35; addSample 2; measure 60 120 220; setMargin 30;"
            + "setSlack 11;";

    /** Twelve calibrations, ten references, eight classes of which 6 and 7 are full, and five sensors. */
    private static final String FULL = "reset 5; 8 x addClass; measure 20 500 510 520 530 540; 5 x addCalibration;"
            + "addReference 100; addReference 200; 4 x addSample 6; 2 x addSample 0; measure 70 550 500 520 500 590;"
            + "7 x addCalibration; 4 x addSample 6; addReference 300; addReference 400; addReference 500;"
            + "addReference 600; measure 30 700 300 520 500 100; 8 x addSample 7; addReference 700; addReference 800;"
            + "addReference 900; addReference 998; measure 45 600 400 520 510 300; setBaseline 4 2000;";

    private RefusalBoundaries() { }

    static void addTo(Boundaries b) {
        b.place("Section 7");
        nothingChanges(b);
        nothingChangesWhenFull(b);
        noSuch(b);
        firstNamed(b);
        notReady(b);
        readyWithout(b);
    }

    private static void nothingChanges(Boundaries b) {
        String sentence =
                "A method that returns one of the constants NO_SUCH, BAD_VALUE, FULL or NOT_READY changes nothing.";
        String badValues = "reset 1 = BAD_VALUE; reset 6 = BAD_VALUE; setBaseline 0 99 = BAD_VALUE;"
                + "setBaseline 1 10000 = BAD_VALUE; measure 101 1 1 = BAD_VALUE; measure 50 1 10000 = BAD_VALUE;"
                + "measure 50 1 1 0 0 -1 = BAD_VALUE; predictedReference 0 1000 = BAD_VALUE; setMargin 401 = "
                + "BAD_VALUE;"
                + "setMargin -1 = BAD_VALUE; setSlack 1000001 = BAD_VALUE; setSlack -1 = BAD_VALUE;"
                + "joinedGroups -1 = BAD_VALUE; joinDistance -1 = BAD_VALUE; nearestSample -1 = BAD_VALUE;"
                + "vote 0 = BAD_VALUE; vote 65 = BAD_VALUE; correctWith 0 = BAD_VALUE; correctWith 32 = BAD_VALUE;"
                + "bestSubset 0 = BAD_VALUE; bestSubset 6 = BAD_VALUE;";
        b.says(sentence, badValues);
        b.says(sentence, UNMEASURED, badValues);
        b.says(sentence, SOME, badValues, "addReference -1 = BAD_VALUE; addReference 1000 = BAD_VALUE;",
                "addReference 35 = BAD_VALUE; addReference 34 = BAD_VALUE;");
        b.says(sentence, FULL, badValues, "addReference 998 = BAD_VALUE; addReference 1000 = BAD_VALUE;");
        String missing = "ratio 0 = NOT_READY; feature 0 = NOT_READY; addCalibration = NOT_READY;"
                + "addReference 5 = NOT_READY; driftPosition = NOT_READY; nearestClass = NOT_READY; runnerUp = "
                + "NOT_READY;"
                + "classify = NOT_READY; suspectSensor = NOT_READY; nearestSample 0 = NOT_READY; vote 1 = NOT_READY;";
        b.says(sentence, missing);
        b.says(sentence, UNMEASURED, missing, "addSample 0 = NOT_READY; addSample 2 = NOT_READY;",
                "distance 0 = NOT_READY;");
    }

    private static void nothingChangesWhenFull(Boundaries b) {
        b.says("A method that returns one of the constants NO_SUCH, BAD_VALUE, FULL or NOT_READY changes nothing.",
                FULL, "addCalibration = FULL; addReference 999 = FULL; addReference 998 = BAD_VALUE; addClass = FULL;",
                "addSample 6 = FULL; addSample 7 = FULL; addSample 8 = NO_SUCH; removeSample 6 8 = NO_SUCH;",
                "removeSample 1 0 = NO_SUCH; recall 7 8 = NO_SUCH; recall 1 0 = NO_SUCH;",
                "setBaseline 5 1000 = NO_SUCH;",
                "setBaseline 4 99 = BAD_VALUE; measure 50 1 1 1 1 10000 = BAD_VALUE; reset 6 = BAD_VALUE;",
                "(and all is as it was) addCalibration = FULL; removeReference = 9; addReference 999 = 10;");
    }

    private static void noSuch(Boundaries b) {
        String sentence =
                "A method that returns one of the constants NO_SUCH, BAD_VALUE, FULL or NOT_READY changes nothing.";
        String sensors = "setBaseline 5 500 = NO_SUCH; setBaseline -1 500 = NO_SUCH; ratio 5 = NO_SUCH;"
                + "feature -1 = NO_SUCH; humiditySlope 5 = NO_SUCH; driftComponent -1 = NO_SUCH;"
                + "predictedReference 5 0 = NO_SUCH; correctWithout 5 = NO_SUCH; sensorScore -1 = NO_SUCH;";
        String classes = "addSample 8 = NO_SUCH; addSample -1 = NO_SUCH; removeSample 8 0 = NO_SUCH;"
                + "removeSample 0 8 = NO_SUCH; removeSample -1 -1 = NO_SUCH; recall 8 0 = NO_SUCH; recall 0 8 = "
                + "NO_SUCH;"
                + "recall 0 -1 = NO_SUCH; sampleCount 8 = NO_SUCH; distance -1 = NO_SUCH; radius 8 = NO_SUCH;"
                + "classDistance 0 8 = NO_SUCH; classDistance -1 0 = NO_SUCH; leaveOneOut 8 0 = NO_SUCH;"
                + "leaveOneOut 0 8 = NO_SUCH; confusion 0 8 = NO_SUCH; confusion -1 0 = NO_SUCH; outlier 8 = NO_SUCH;";
        b.says(sentence, sensors, classes, "removeCalibration = NO_SUCH; removeReference = NO_SUCH;");
        b.says(sentence, UNMEASURED, sensors, classes, "removeCalibration = NO_SUCH; removeReference = NO_SUCH;");
        b.says(sentence, SOME, sensors, classes, "removeSample 1 0 = NO_SUCH; recall 1 0 = NO_SUCH;");
        b.says(sentence, FULL, sensors, classes);
        b.says(sentence, FULL, "12 x removeCalibration; removeCalibration = NO_SUCH; removeReference = 9;");
        b.says(sentence, FULL, "10 x removeReference; removeReference = NO_SUCH; removeCalibration = 11;");
    }

    private static void firstNamed(Boundaries b) {
        b.says("If several of them apply, the one named first in the description is returned.",
                "(setBaseline: NO_SUCH, BAD_VALUE) setBaseline 2 99 = NO_SUCH; setBaseline -1 10000 = NO_SUCH;",
                "(ratio, feature: NO_SUCH, NOT_READY) ratio 2 = NO_SUCH; ratio -1 = NO_SUCH; feature 2 = NO_SUCH;",
                "feature -1 = NO_SUCH; (addReference: NOT_READY, BAD_VALUE, FULL) addReference -1 = NOT_READY;",
                "addReference 1000 = NOT_READY;",
                "(predictedReference: NO_SUCH, BAD_VALUE) predictedReference 2 -1 = NO_SUCH;",
                "predictedReference -1 1000 = NO_SUCH;",
                "(addSample, distance: NO_SUCH, NOT_READY) addSample 0 = NO_SUCH;",
                "distance 0 = NO_SUCH; addClass; addSample 1 = NO_SUCH; addSample -1 = NO_SUCH;",
                "distance 1 = NO_SUCH;",
                "distance -1 = NO_SUCH; (nearestSample, vote: BAD_VALUE, NOT_READY) nearestSample -1 = BAD_VALUE;",
                "vote 0 = BAD_VALUE; vote 65 = BAD_VALUE; reset 2;", FULL,
                "addReference 998 = BAD_VALUE; addReference 997 = BAD_VALUE; addReference -1 = BAD_VALUE;",
                "addReference 1000 = BAD_VALUE; addReference 999 = FULL;");
    }

    private static void notReady(Boundaries b) {
        String all = "ratio 0 = NOT_READY; feature 1 = NOT_READY; addCalibration = NOT_READY;"
                + "addReference 0 = NOT_READY; driftPosition = NOT_READY; addClass = 0; addSample 0 = NOT_READY;"
                + "distance 0 = NOT_READY; nearestClass = NOT_READY; runnerUp = NOT_READY; classify = NOT_READY;"
                + "suspectSensor = NOT_READY; nearestSample 0 = NOT_READY; vote 1 = NOT_READY;";
        String sentence = "Methods that use the current measurement return NOT_READY if there is none.";
        b.says(sentence, all);
        b.says(sentence, "measure 101 1 1 = BAD_VALUE; recall 0 0 = NO_SUCH;", all);
        b.says(sentence, SOME, "reset 4 = 4;", all);
        b.says(sentence, "measure 0; ratio 0 = 0; feature 1 = 10000; addCalibration = 1; addReference 0 = 1;",
                "driftPosition = NONE; addClass = 0; distance 0 = NONE; nearestClass = NONE; runnerUp = NONE;",
                "classify = NONE; suspectSensor = NONE; nearestSample 0 = NONE; vote 1 = NONE; addSample 0 = 0;",
                "distance 0 = 0; nearestClass = 0; classify = 0; suspectSensor = 0; nearestSample 0 = 0;",
                "vote 1 = 0;");
    }

    /** The other methods do without. */
    private static void readyWithout(Boundaries b) {
        b.says("Methods that use the current measurement return NOT_READY if there is none.",
                "sensorCount = 2; setBaseline 0 500 = 1000; removeCalibration = NO_SUCH; humiditySlope 0 = NONE;",
                "useHumidity true = 1; removeReference = NO_SUCH; driftComponent 0 = 1000; useDrift true = 1;",
                "predictedReference 0 0 = NONE; addClass = 0; classCount = 1; removeSample 0 0 = NO_SUCH;",
                "recall 0 0 = NO_SUCH; sampleCount 0 = 0; radius 0 = NONE; setMargin 50 = 50; setSlack 0 = 0;",
                "classDistance 0 0 = NONE; closestClasses = NONE; joinedGroups 0 = NONE; joinDistance 0 = NONE;",
                "leaveOneOut 0 0 = NO_SUCH; confusion 0 0 = 0; correctCount = 0; correctWithout 0 = 0;",
                "correctWith 1 = 0; bestSubset 1 = 1; leastUsefulSensor = 0; sensorScore 0 = NONE;",
                "outlier 0 = NONE;");
    }
}
