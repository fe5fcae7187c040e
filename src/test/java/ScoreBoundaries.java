/** The boundary cases of section 6 and of promises 45 and 46: scores of sensors, and outliers. */
final class ScoreBoundaries {
    private ScoreBoundaries() { }

    static void addTo(Boundaries b) {
        section6(b);
        withoutScatter(b);
        sensorScore(b);
        outlier(b);
    }

    private static void section6(Boundaries b) {
        b.place("Section 6");
        b.says("For a sensor, let w be the sum, over all classes that are not empty, of (n * q - s * s) / n, "
                + "where n is the number of samples of the class, s the sum and q the sum of the squares of the "
                + "features of this sensor over the samples of the class.",
                "(classes 1 and 3 stay empty) 4 x addClass; measure 50 10 1; addSample 0; measure 50 20 2;",
                "addSample 0;",
                "measure 50 40 1; addSample 2; measure 50 41 2; addSample 2; measure 50 45 2; addSample 2;",
                "(w = 50 + 14, b = 938 - 64) sensorScore 0 = 13656;",
                "(each class is rounded: 0.5 and 0.67 are 0, b is 1)",
                "sensorScore 1 = 1000000;");
        b.says("Let N, Q and T be the sums of n, q and s over these classes, and let b = (N * Q - T * T) / N - w.",
                "2 x addClass; measure 50 0 0; addSample 0; measure 50 2 0; addSample 0; measure 50 1 1;",
                "addSample 1;",
                "(w = 2; N = 3, Q = 5, T = 3: 6 / 3 - 2) sensorScore 0 = 0; measure 50 4 1; addSample 1;",
                "(w = 2 + 4; N = 4, Q = 21, T = 7: 8 - 6) sensorScore 0 = 333; (w = 0; Q = 2, T = 2: 1)",
                "sensorScore 1 = 1000000;");
        b.says("The score of the sensor is 1000 * b / w.",
                "2 x addClass; measure 50 0 5; addSample 0; measure 50 10 5; addSample 0;",
                "(b is 0) sensorScore 0 = 0;",
                "measure 50 8 5; addSample 1; (w = 50; N = 3, Q = 164, T = 18: 56 - 50) sensorScore 0 = 120;",
                "measure 50 9 5; addSample 1; (w = 50 + 0; N = 4, Q = 245, T = 27: 62 - 50) sensorScore 0 = 240;",
                "measure 50 14 5; addSample 1; (w = 50 + 20; N = 5, Q = 441, T = 41: 104 - 70) sensorScore 0 = 485;");
    }

    private static void withoutScatter(Boundaries b) {
        b.says("If w is 0, the score is 1,000,000 if b is greater than 0, otherwise 0.",
                "3 x addClass; measure 50 7 7; addSample 0; (one sample) sensorScore 0 = 0; measure 50 7 9;",
                "addSample 1;",
                "(b is 0 and 2) sensorScore 0 = 0; sensorScore 1 = 1000000; measure 50 7 10; addSample 1;",
                "(w is still 0 when rounded) sensorScore 1 = 1000000; measure 50 7 11; addSample 1; (w is 2, b is 6)",
                "sensorScore 1 = 3000; reset 2; 2 x addClass; measure 50 7 0; addSample 0; measure 50 8 0;",
                "2 x addSample 1;",
                "(b is 2/3, rounded to 0) sensorScore 0 = 0; measure 50 7 0; addSample 0;",
                "(b is 1) sensorScore 0 = 1000000;");
        b.says("If there are no samples, there is no score.",
                "sensorScore 0 = NONE; 8 x addClass; sensorScore 0 = NONE; measure 50 5 5; sensorScore 1 = NONE;",
                "addSample 7; sensorScore 1 = 0; removeSample 7 0; sensorScore 1 = NONE;");
    }

    private static void sensorScore(Boundaries b) {
        String wide = "8 x addClass; measure 50 0 0; 8 x addSample 0; 8 x addSample 1; 8 x addSample 2;"
                + "7 x addSample 3; measure 50 2000 0; 8 x addSample 4; 8 x addSample 5;"
                + "8 x addSample 6; 8 x addSample 7;";
        b.place("Promise 45");
        b.says("- `sensor`: number of a sensor",
                "reset 5; 2 x addClass; measure 50 1 1 1 1 1; addSample 0; measure 50 1 1 1 1 5; addSample 1;",
                "sensorScore 0 = 0; sensorScore 3 = 0; sensorScore 4 = 1000000; sensorScore 5 = NO_SUCH;",
                "sensorScore -1 = NO_SUCH;");
        b.says("Returns the score, but at most 2,000,000,000",
                wide, "measure 50 10 0; addSample 3 = 7; (w = 87, b = 63980011) sensorScore 0 = 735402425;",
                "removeSample 3 7; measure 50 6 0; addSample 3 = 7; (w = 31, b = 63987993: 2064128806)",
                "sensorScore 0 = 2000000000; removeSample 3 7; measure 50 2 0; addSample 3 = 7;",
                "(w = 3, b = 63998000:",
                "more than an int holds) sensorScore 0 = 2000000000; sensorScore 1 = 0;");
        b.says("NO_SUCH if the sensor does not exist",
                "sensorScore 2 = NO_SUCH; sensorScore -1 = NO_SUCH; addClass; measure 50 1 1; addSample 0;",
                "sensorScore 2 = NO_SUCH; sensorScore 4 = NO_SUCH; sensorScore 5 = NO_SUCH;",
                "sensorScore -1 = NO_SUCH;",
                "sensorScore LOW = NO_SUCH; sensorScore HIGH = NO_SUCH; sensorScore 1 = 0;");
        b.says("NONE if there are no samples.",
                "sensorScore 1 = NONE; measure 50 1 1; sensorScore 1 = NONE; 2 x addClass; sensorScore 1 = NONE;",
                "addSample 1; sensorScore 1 = 0; removeSample 1 0; sensorScore 1 = NONE;");
    }

    private static void outlier(Boundaries b) {
        b.place("Promise 46");
        b.says("among equal distances, the lowest number.",
                "2 x addClass; measure 50 100 0; addSample 1; outlier 1 = 0; measure 50 120 0; addSample 1;",
                "outlier 1 = 0; measure 50 110 0; addSample 1; outlier 1 = 0; removeSample 1 0; (120 and 110)",
                "outlier 1 = 0; measure 50 115 9; addSample 1; outlier 1 = 2; measure 50 115 9; addSample 1;",
                "(120 and 110, then the two with 9) outlier 1 = 0; measure 50 115 0; addSample 1; 2 x addSample 1;",
                "outlier 1 = 2;");
        b.says("- `label`: number of a class",
                "8 x addClass; measure 50 1 1; addSample 7; addSample 0; measure 50 1 2; addSample 7;",
                "measure 50 1 9;",
                "addSample 7; outlier 7 = 2; outlier 0 = 0; outlier 8 = NO_SUCH; outlier -1 = NO_SUCH;",
                "outlier 6 = NONE;");
        b.says("NO_SUCH if the class does not exist",
                "outlier 0 = NO_SUCH; outlier -1 = NO_SUCH; addClass; measure 50 1 1; addSample 0;",
                "outlier 1 = NO_SUCH;",
                "outlier 8 = NO_SUCH; outlier LOW = NO_SUCH; outlier HIGH = NO_SUCH; outlier 0 = 0;");
        b.says("NONE if the class is empty.",
                "2 x addClass; outlier 0 = NONE; measure 50 1 1; addSample 1; outlier 0 = NONE; outlier 1 = 0;",
                "removeSample 1 0; outlier 1 = NONE;");
    }
}
