/** The boundary cases of section 2 and of promises 8 to 11: calibrations, slopes, the correction and its switch. */
final class HumidityBoundaries {
    /** Slopes of 1999 and -1999: at humidity 48 the features are ratio + 3998 and ratio - 3998. */
    private static final String STEEP = "measure 50 0 1999; addCalibration; measure 51 1999 0; addCalibration;";
    /** Eleven calibrations, six of them at (0, 0) and five at (100, 1000). */
    private static final String ELEVEN =
            "measure 0 0 0; 6 x addCalibration; measure 100 1000 0; 5 x addCalibration;";

    private HumidityBoundaries() { }

    static void addTo(Boundaries b) {
        section2(b);
        correction(b);
        addCalibration(b);
        removeCalibration(b);
        humiditySlope(b);
        useHumidity(b);
    }

    private static void section2(Boundaries b) {
        b.place("Section 2");
        b.says("At most 12 measurements are stored as calibrations.",
                "measure 10 10 0; 11 x addCalibration; addCalibration = 12; addCalibration = FULL;",
                "measure 20 100 0; addCalibration = FULL; humiditySlope 0 = NONE; removeCalibration = 11;",
                "addCalibration = 12; (90 / 10) humiditySlope 0 = 10009000; addCalibration = FULL;");
        b.says("For a sensor, let n be the number of calibrations, h the humidity and f the ratio of a calibration.",
                "measure 40 100 9999; addCalibration; measure 60 140 9999; addCalibration;",
                "humiditySlope 0 = 10002000; (f is the ratio, not the reading) humiditySlope 1 = 10000000;",
                "setBaseline 1 9999; humiditySlope 1 = 10000000; measure 60 140 0; addCalibration;",
                "(n is 3: sxy = 3 * 20800 - 160 * 380, sxx = 3 * 8800 - 160 * 160) humiditySlope 0 = 10002000;",
                "(1000 * [3 * 100000 - 160 * 2000] / 800) humiditySlope 1 = 9975000;");
        b.says("Let sxy = n * sum(h * f) - sum(h) * sum(f) and sxx = n * sum(h * h) - sum(h) * sum(h), where "
                + "the sums go over all calibrations.",
                ELEVEN, "addCalibration = 12; humiditySlope 0 = 10010000; removeCalibration;",
                "(the twelfth counts) measure 100 1012 0; addCalibration = 12; humiditySlope 0 = 10010020;",
                "reset 2; (and so does the first) measure 0 12 0; addCalibration; measure 0 0 0;",
                "5 x addCalibration; measure 100 1000 0; 6 x addCalibration; humiditySlope 0 = 10009980;");
    }

    private static void correction(Boundaries b) {
        b.says("The humidity correction of a sensor in a measurement with humidity h is sxy * (h - 50) / sxx.",
                "measure 0 100 300; addCalibration; measure 3 107 299; addCalibration;",
                "(7/3 and -1/3 for each step of humidity) measure 50 500 500; feature 0 = 10500; feature 1 = 10500;",
                "measure 49 500 500; feature 0 = 10503; feature 1 = 10500; measure 51 500 500; feature 0 = 10498;",
                "feature 1 = 10501; measure 0 500 500; (-116.7 and 16.7) feature 0 = 10617; feature 1 = 10484;",
                "measure 100 500 500; (116.7 and -16.7) feature 0 = 10384; feature 1 = 10517;");
        b.says("It is 0 if sxx is 0 or if the humidity correction is switched off.",
                "measure 100 500 0; feature 0 = 10500; addCalibration = 1; (of one) feature 0 = 10500;",
                "measure 100 900 0; 11 x addCalibration; (of twelve with one humidity) feature 0 = 10900;",
                "removeCalibration = 11; measure 99 800 0; addCalibration = 12; measure 100 900 0;",
                "(sxy = 12 * 1029200 - 1199 * 10300 = 700, sxx = 11) feature 0 = 7719;",
                "useHumidity false; feature 0 = 10900; useHumidity true; feature 0 = 7719;");
        b.says("It is switched on at first.",
                "measure 0 100 0; addCalibration; measure 100 200 0; addCalibration; feature 0 = 10150;",
                "useHumidity true = 1; useHumidity false = 1; reset 2; useHumidity true = 1;");
        b.says("The feature of a sensor in a measurement is its ratio minus its humidity correction, limited to "
                + "-4000..4000.",
                STEEP, "measure 48 0 0; feature 0 = 13998; feature 1 = 6002; measure 48 1 0; feature 0 = 13999;",
                "measure 48 2 0; feature 0 = 14000; measure 48 3 0; (4001) feature 0 = 14000;",
                "measure 47 0 1998; feature 1 = 6001; measure 47 0 1997; feature 1 = 6000;",
                "measure 47 0 1996; (-4001) feature 1 = 6000; measure 0; (99950) feature 0 = 14000;",
                "feature 1 = 6000; measure 100 2000 2000; feature 0 = 6000; feature 1 = 14000;",
                "(the limit goes for stored features too) addClass; measure 48 2 0; addSample 0;",
                "measure 0 2000 0; distance 0 = 4; measure 48 9 0; distance 0 = 0;");
    }

    private static void addCalibration(Boundaries b) {
        b.place("Promise 8");
        b.says("Stores the current measurement as a calibration.",
                "measure 0 100 0; addCalibration = 1; measure 100 200 0; humiditySlope 0 = NONE;",
                "addCalibration = 2; humiditySlope 0 = 10001000; measure 50 0 0; humiditySlope 0 = 10001000;");
        b.says("NOT_READY if there is no current measurement",
                "addCalibration = NOT_READY; removeCalibration = NO_SUCH; measure 101 = BAD_VALUE;",
                "addCalibration = NOT_READY; measure 0; addCalibration = 1; reset 2; addCalibration = NOT_READY;");
        b.says("FULL if there are already 12 calibrations.",
                ELEVEN, "addCalibration = 12; humiditySlope 0 = 10010000; measure 1 2000 2000;",
                "addCalibration = FULL; addCalibration = FULL; humiditySlope 0 = 10010000;",
                "humiditySlope 1 = 10000000; ratio 0 = 2000; removeCalibration = 11; addCalibration = 12;",
                "addCalibration = FULL;");
    }

    private static void removeCalibration(Boundaries b) {
        b.place("Promise 9");
        b.says("Removes the calibration that was stored latest.",
                "measure 0 100 0; addCalibration; measure 10 110 0; addCalibration; measure 20 200 0;",
                "addCalibration = 3; removeCalibration = 2; humiditySlope 0 = 10001000; measure 30 160 0;",
                "addCalibration = 3; removeCalibration = 2; humiditySlope 0 = 10001000; removeCalibration = 1;",
                "humiditySlope 0 = NONE; measure 100 300 0; addCalibration = 2; (the first is left)",
                "humiditySlope 0 = 10002000;");
        b.says("NO_SUCH if there is none.",
                "removeCalibration = NO_SUCH; measure 50 1 1; removeCalibration = NO_SUCH; addCalibration = 1;",
                "removeCalibration = 0; removeCalibration = NO_SUCH; removeCalibration = NO_SUCH;",
                "addCalibration = 1; addCalibration = 2; removeCalibration = 1;");
    }

    private static void humiditySlope(Boundaries b) {
        b.place("Promise 10");
        b.says("- `sensor`: number of a sensor",
                "reset 5; measure 0 1 2 3 4 5; addCalibration; measure 1 2 4 6 8 10; addCalibration;",
                "humiditySlope 0 = 10001000; humiditySlope 1 = 10002000; humiditySlope 2 = 10003000;",
                "humiditySlope 3 = 10004000; humiditySlope 4 = 10005000; humiditySlope 5 = NO_SUCH;");
        b.says("Returns the slope of a sensor by humidity in thousandths, plus 10,000,000: 1000 * sxy / sxx + "
                + "10,000,000.",
                "measure 0 2000 0; addCalibration; measure 1 0 2000; addCalibration; humiditySlope 0 = 8000000;",
                "humiditySlope 1 = 12000000; removeCalibration; measure 100 2000 1; addCalibration;",
                "humiditySlope 0 = 10000000; humiditySlope 1 = 10000010; useHumidity false;",
                "(the switch does not matter) humiditySlope 1 = 10000010;");
        b.says("NONE if sxx is 0",
                "humiditySlope 0 = NONE; measure 100 5 5; humiditySlope 0 = NONE; addCalibration = 1;",
                "humiditySlope 0 = NONE; humiditySlope 1 = NONE; measure 100 2000 0; 11 x addCalibration;",
                "humiditySlope 0 = NONE; humiditySlope 1 = NONE; removeCalibration; measure 99 0 0;",
                "addCalibration = 12; humiditySlope 1 = 10000454; removeCalibration; humiditySlope 1 = NONE;");
        b.says("NO_SUCH if the sensor does not exist.",
                "humiditySlope 2 = NO_SUCH; humiditySlope -1 = NO_SUCH; measure 0 1 1; addCalibration;",
                "humiditySlope 2 = NO_SUCH; measure 1 2 2; addCalibration; humiditySlope 1 = 10001000;",
                "humiditySlope 2 = NO_SUCH; humiditySlope 4 = NO_SUCH; humiditySlope 5 = NO_SUCH;",
                "humiditySlope -1 = NO_SUCH; humiditySlope LOW = NO_SUCH; humiditySlope HIGH = NO_SUCH;");
    }

    private static void useHumidity(Boundaries b) {
        b.place("Promise 11");
        b.says("- `on`: whether it is on from now on",
                "measure 0 100 0; addCalibration; measure 100 200 0; addCalibration; useHumidity false;",
                "feature 0 = 10200; useHumidity false; feature 0 = 10200; useHumidity true; feature 0 = 10150;",
                "useHumidity true; feature 0 = 10150; useDrift false; feature 0 = 10150;");
        b.says("Returns 1 if it was on before, otherwise 0.",
                "useHumidity true = 1; useHumidity true = 1; useHumidity false = 1; useHumidity false = 0;",
                "useHumidity true = 0; useHumidity true = 1; useDrift false = 1; useHumidity false = 1;",
                "useDrift false = 0; useHumidity false = 0;");
    }
}
