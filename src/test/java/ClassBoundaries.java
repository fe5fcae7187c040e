/** The boundary cases of section 4 on classes and samples, and of promises 18 to 23. */
final class ClassBoundaries {
    /** A class with three samples, of humidity 10, 11 and 12, behind an empty one. */
    private static final String THREE = "2 x addClass; measure 10 1 0; addSample 1; measure 11 2 0; addSample 1;"
            + "measure 12 3 0; addSample 1;";

    private ClassBoundaries() { }

    static void addTo(Boundaries b) {
        section4(b);
        addClass(b);
        addSample(b);
        removeSample(b);
        recall(b);
        sampleCount(b);
    }

    private static void section4(Boundaries b) {
        b.place("Section 4");
        b.says("There are at most 8 classes, numbered from 0.",
                "measure 50 1 1; addSample 0 = NO_SUCH; addClass = 0; addSample 0 = 0; addSample 1 = NO_SUCH;",
                "addClass = 1; addClass = 2; addClass = 3; addClass = 4; addClass = 5; addClass = 6;",
                "addSample 7 = NO_SUCH; addClass = 7; addSample 7 = 0; addClass = FULL; addClass = FULL;",
                "classCount = 8; addSample 8 = NO_SUCH; addSample -1 = NO_SUCH;");
        b.says("Each class has 0 to 8 samples, which are measurements.",
                "2 x addClass; sampleCount 0 = 0; measure 100 9999 0; 7 x addSample 0; addSample 0 = 7;",
                "sampleCount 0 = 8; addSample 0 = FULL; sampleCount 0 = 8; sampleCount 1 = 0; measure 0 0 9999;",
                "addSample 1 = 0; recall 0 7 = 100; setBaseline 0 9999; ratio 0 = 1000; ratio 1 = 0;",
                "recall 1 0 = 0; ratio 0 = 0; ratio 1 = 2000;");
        b.says("The samples of a class are numbered from 0 in the order in which they were added",
                "2 x addClass; measure 10 1 0; addSample 1 = 0; measure 20 2 0; addSample 0 = 0; measure 30 3 0;",
                "addSample 1 = 1; measure 40 4 0; addSample 0 = 1; recall 1 0 = 10; recall 1 1 = 30;",
                "recall 0 0 = 20; recall 0 1 = 40; recall 0 2 = NO_SUCH; removeSample 1 0 = 1; measure 50 5 0;",
                "addSample 1 = 1; recall 1 0 = 30; recall 1 1 = 50;");
        b.says("if a sample is removed, the numbers of the later samples of its class decrease by 1.",
                THREE, "measure 20 7 0; addSample 0; measure 21 8 0; addSample 0; removeSample 1 1 = 2;",
                "recall 1 0 = 10; recall 1 1 = 12; recall 1 2 = NO_SUCH; (another class is left alone)",
                "recall 0 0 = 20; recall 0 1 = 21; removeSample 1 1 = 1; (the last: no later ones) recall 1 0 = 10;",
                "recall 1 1 = NO_SUCH; removeSample 0 0 = 1; (the first) recall 0 0 = 21; recall 0 1 = NO_SUCH;");
        b.says("A class without samples is empty.",
                "addClass; measure 50 1 1; distance 0 = NONE; radius 0 = NONE; outlier 0 = NONE; addSample 0 = 0;",
                "distance 0 = 0; radius 0 = 0; outlier 0 = 0; removeSample 0 0 = 0; distance 0 = NONE;",
                "radius 0 = NONE; outlier 0 = NONE; classCount = 1;");
    }

    private static void addClass(Boundaries b) {
        b.place("Promise 18");
        b.says("Adds an empty class.",
                "addClass = 0; sampleCount 0 = 0; measure 50 1 1; addSample 0; addClass = 1; sampleCount 1 = 0;",
                "sampleCount 0 = 1; reset 2; addClass = 0; sampleCount 0 = 0; addClass = 1; sampleCount 1 = 0;");
        b.says("FULL if there are already 8 classes.",
                "7 x addClass; addClass = 7; addClass = FULL; addClass = FULL; classCount = 8;",
                "sampleCount 7 = 0; sampleCount 8 = NO_SUCH; (samples that go leave the class)",
                "measure 50 1 1; addSample 7 = 0; removeSample 7 0 = 0; addClass = FULL; reset 2; addClass = 0;");
        b.place("Promise 19");
        b.says("Returns 0 to 8.",
                "classCount = 0; addClass; classCount = 1; 6 x addClass; classCount = 7; addClass;",
                "classCount = 8; addClass = FULL; classCount = 8; reset 2; classCount = 0;");
    }

    private static void addSample(Boundaries b) {
        b.place("Promise 20");
        b.says("- `label`: number of a class",
                "8 x addClass; measure 50 1 1; addSample 0 = 0; addSample 7 = 0; addSample 7 = 1;",
                "sampleCount 0 = 1; sampleCount 7 = 2; sampleCount 3 = 0; addSample -1 = NO_SUCH;",
                "addSample 8 = NO_SUCH;");
        b.says("NO_SUCH if the class does not exist",
                "addSample 0 = NO_SUCH; measure 50 1 1; addSample 0 = NO_SUCH; 2 x addClass; addSample 1 = 0;",
                "addSample 2 = NO_SUCH; addSample 7 = NO_SUCH; addSample 8 = NO_SUCH; addSample -1 = NO_SUCH;",
                "addSample LOW = NO_SUCH; addSample HIGH = NO_SUCH; sampleCount 0 = 0; sampleCount 1 = 1;");
        b.says("NOT_READY if there is no current measurement",
                "addClass; addSample 0 = NOT_READY; sampleCount 0 = 0; addSample 1 = NO_SUCH;",
                "measure 101 = BAD_VALUE; addSample 0 = NOT_READY; recall 0 0 = NO_SUCH; addSample 0 = NOT_READY;",
                "measure 0; addSample 0 = 0; reset 2; addClass; addSample 0 = NOT_READY;");
        b.says("FULL if the class already has 8 samples.",
                "2 x addClass; measure 10 1 1; 7 x addSample 0; addSample 0 = 7; measure 20 2 2;",
                "addSample 0 = FULL; addSample 0 = FULL; sampleCount 0 = 8; recall 0 7 = 10; measure 20 2 2;",
                "addSample 1 = 0; removeSample 0 0 = 7; addSample 0 = 7; addSample 0 = FULL; recall 0 7 = 20;",
                "recall 0 6 = 10;");
    }

    private static void removeSample(Boundaries b) {
        b.place("Promise 21");
        b.says("- `label`: number of a class",
                "8 x addClass; measure 50 1 1; addSample 0; addSample 7; addSample 7; removeSample 7 1 = 1;",
                "removeSample 0 0 = 0; sampleCount 7 = 1; removeSample 7 0 = 0; sampleCount 7 = 0;",
                "removeSample 8 0 = NO_SUCH;");
        b.says("- `sample`: number of a sample of that class",
                "2 x addClass; measure 10 1 0; 7 x addSample 1; measure 11 2 0; addSample 1 = 7;",
                "removeSample 1 8 = NO_SUCH; removeSample 1 7 = 7; recall 1 6 = 10; removeSample 1 7 = NO_SUCH;",
                "removeSample 1 0 = 6; removeSample 1 -1 = NO_SUCH; removeSample 0 0 = NO_SUCH;",
                "sampleCount 1 = 6;");
        b.says("NO_SUCH if the class or the sample does not exist.",
                "removeSample 0 0 = NO_SUCH;", THREE, "removeSample 2 0 = NO_SUCH; removeSample -1 0 = NO_SUCH;",
                "removeSample 0 0 = NO_SUCH; removeSample 1 3 = NO_SUCH; removeSample 1 -1 = NO_SUCH;",
                "removeSample 1 LOW = NO_SUCH; removeSample 1 HIGH = NO_SUCH; removeSample LOW 0 = NO_SUCH;",
                "removeSample HIGH HIGH = NO_SUCH; sampleCount 1 = 3; removeSample 1 2 = 2;",
                "removeSample 1 2 = NO_SUCH; removeSample 1 0 = 1; removeSample 1 0 = 0;",
                "removeSample 1 0 = NO_SUCH; classCount = 2;");
    }

    private static void recall(Boundaries b) {
        b.place("Promise 22");
        b.says("The sample stays in its class.",
                THREE, "recall 1 1 = 11; ratio 0 = 2; sampleCount 1 = 3; recall 1 1 = 11; recall 1 2 = 12;",
                "(and is not touched by what becomes of the current one) measure 99 99 99; recall 1 2 = 12;",
                "ratio 0 = 3; removeSample 1 2 = 2; ratio 0 = 3; addSample 0 = 0; recall 0 0 = 12;");
        b.says("- `label`: number of a class",
                "8 x addClass; measure 10 1 1; addSample 0; measure 20 2 2; addSample 7; recall 0 0 = 10;",
                "recall 7 0 = 20; recall 8 0 = NO_SUCH; recall -1 0 = NO_SUCH; ratio 0 = 2;");
        b.says("- `sample`: number of a sample of that class",
                "addClass; measure 10 1 1; addSample 0; measure 20 2 2; 6 x addSample 0; measure 30 3 3;",
                "addSample 0 = 7; recall 0 0 = 10; recall 0 7 = 30; recall 0 8 = NO_SUCH; recall 0 -1 = NO_SUCH;",
                "ratio 0 = 3;");
        b.says("Returns the humidity of the sample",
                "addClass; measure 0 1 1; addSample 0; measure 100 2 2; addSample 0; recall 0 0 = 0; ratio 0 = 1;",
                "recall 0 1 = 100; ratio 0 = 2;");
        b.says("NO_SUCH if the class or the sample does not exist.",
                "recall 0 0 = NO_SUCH; ratio 0 = NOT_READY;", THREE, "measure 77 5 6; recall 2 0 = NO_SUCH;",
                "recall -1 0 = NO_SUCH; recall 0 0 = NO_SUCH; recall 1 3 = NO_SUCH; recall 1 -1 = NO_SUCH;",
                "recall 1 LOW = NO_SUCH; recall 1 HIGH = NO_SUCH; recall LOW 0 = NO_SUCH; recall HIGH 0 = NO_SUCH;",
                "ratio 0 = 5; ratio 1 = 6; addSample 0 = 0; recall 0 0 = 77; removeSample 1 0;",
                "recall 1 2 = NO_SUCH;");
    }

    private static void sampleCount(Boundaries b) {
        b.place("Promise 23");
        b.says("- `label`: number of a class",
                "8 x addClass; measure 50 1 1; addSample 7; 2 x addSample 0; sampleCount 0 = 2; sampleCount 7 = 1;",
                "sampleCount 6 = 0; sampleCount 8 = NO_SUCH; sampleCount -1 = NO_SUCH;");
        b.says("Returns 0 to 8",
                "addClass; sampleCount 0 = 0; measure 50 1 1; addSample 0; sampleCount 0 = 1; 7 x addSample 0;",
                "sampleCount 0 = 8; addSample 0 = FULL; sampleCount 0 = 8; removeSample 0 3; sampleCount 0 = 7;");
        b.says("NO_SUCH if the class does not exist.",
                "sampleCount 0 = NO_SUCH; addClass; sampleCount 0 = 0; sampleCount 1 = NO_SUCH;",
                "sampleCount -1 = NO_SUCH; sampleCount LOW = NO_SUCH; sampleCount HIGH = NO_SUCH; reset 2;",
                "sampleCount 0 = NO_SUCH;");
    }
}
