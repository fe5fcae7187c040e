/** The boundary cases of promises 34 to 37: the clustering, the nearest samples, votes. */
final class NeighbourBoundaries {
    private NeighbourBoundaries() { }

    static void addTo(Boundaries b) {
        equalGroups(b);
        joinedGroups(b);
        joinDistance(b);
        order(b);
        nearestSample(b);
        votes(b);
        vote(b);
    }

    /** Classes from 0 on, with one sample each, at these readings of sensor 0. */
    private static String classesAt(int... readings) {
        StringBuilder text = new StringBuilder();
        for (int i = 0; i < readings.length; i++) {
            text.append("addClass; measure 50 ").append(readings[i]).append("; addSample ").append(i).append("; ");
        }
        return text.toString();
    }

    private static void equalGroups(Boundaries b) {
        b.place("Promise 34");
        b.says("At first each class that is not empty is a group.",
                "3 x addClass; joinedGroups 0 = NONE; measure 50 1; addSample 2; joinedGroups 0 = NONE;",
                "measure 50 5; addSample 0; joinedGroups 0 = 2; joinDistance 0 = 16; joinedGroups 1 = NONE;",
                "addSample 1; joinedGroups 0 = 1; joinedGroups 1 = 2; joinedGroups 2 = NONE; removeSample 0 0;",
                "joinedGroups 0 = 12; joinedGroups 1 = NONE;");
        b.says("In each step, the two groups with the smallest distance are joined",
                classesAt(28, 21, 15, 10, 6, 3, 1, 0), "joinedGroups 0 = 67; joinedGroups 1 = 56; joinedGroups 2 = 45;",
                "joinedGroups 3 = 34; joinedGroups 4 = 23; joinedGroups 5 = 12; joinedGroups 6 = 1;",
                "(steps may be asked for in any order) joinedGroups 3 = 34; joinDistance 0 = 1;",
                "joinDistance 6 = 49;");
        b.says("the distance of two groups is the smallest distance of a class of one group and a class of the "
                + "other group.",
                classesAt(100, 500, 107, 120), "(107 is 13 from 120, 100 is 20) joinedGroups 1 = 3;",
                "joinDistance 1 = 169; joinedGroups 2 = 1; (380 from 120) joinDistance 2 = 144400;");
        b.says("Among equal distances, the pair with the lowest class number in its first group is joined, then "
                + "the pair with the lowest class number in its second group (the first group is the one that "
                + "contains the lower class number).",
                classesAt(100, 300, 310, 110), "(03 and 12) joinedGroups 0 = 3; joinedGroups 1 = 12;",
                "joinedGroups 2 = 1; reset 2;", classesAt(110, 90, 120, 100),
                "(02, 03 and 13) joinedGroups 0 = 2; joinedGroups 1 = 3; (1 is at 10 of 3, now of the group of 0)",
                "joinedGroups 2 = 1; joinDistance 2 = 100; reset 2;", classesAt(100, 500, 510, 105, 115),
                "joinedGroups 0 = 3; (12 and 34, where 3 is of the group of 0) joinedGroups 1 = 4;",
                "joinedGroups 2 = 12; joinedGroups 3 = 1; reset 2;", classesAt(7, 7, 7, 7, 7, 7, 7, 7),
                "joinedGroups 0 = 1; joinedGroups 1 = 2; joinedGroups 6 = 7; joinDistance 6 = 0;");
    }

    private static void joinedGroups(Boundaries b) {
        b.says("- `step`: number of the step, from 0",
                classesAt(0, 1, 3, 6, 10, 15, 21, 28), "joinedGroups 0 = 1; joinedGroups 1 = 2; joinedGroups 2 = 3;",
                "joinedGroups 3 = 4; joinedGroups 4 = 5; joinedGroups 5 = 6; joinedGroups 6 = 7;",
                "joinedGroups 7 = NONE; joinedGroups -1 = BAD_VALUE;");
        b.says("NONE if there are not so many steps",
                "joinedGroups 0 = NONE; joinedGroups HIGH = NONE;", classesAt(5), "joinedGroups 0 = NONE;",
                "addClass; joinedGroups 0 = NONE; addSample 1; joinedGroups 0 = 1; joinedGroups 1 = NONE;",
                "joinedGroups 7 = NONE; joinedGroups 8 = NONE; joinedGroups HIGH = NONE; removeSample 0 0;",
                "joinedGroups 0 = NONE; reset 2;", classesAt(28, 21, 15, 10, 6, 3, 1, 0),
                "joinedGroups 6 = 1; joinedGroups 7 = NONE; joinedGroups 8 = NONE; joinedGroups HIGH = NONE;");
        b.says("BAD_VALUE if step is negative.",
                "joinedGroups -1 = BAD_VALUE; joinedGroups LOW = BAD_VALUE;", classesAt(5, 6),
                "joinedGroups -1 = BAD_VALUE; joinedGroups LOW = BAD_VALUE; joinedGroups 0 = 1;");
    }

    private static void joinDistance(Boundaries b) {
        b.place("Promise 35");
        b.says("- `step`: number of the step, from 0",
                classesAt(0, 1, 3, 6, 10, 15, 21, 28), "joinDistance 0 = 1; joinDistance 1 = 4; joinDistance 5 = 36;",
                "joinDistance 6 = 49; joinDistance 7 = NONE; joinDistance -1 = BAD_VALUE;");
        b.says("NONE if there are not so many steps",
                "joinDistance 0 = NONE; joinDistance HIGH = NONE;", classesAt(5), "joinDistance 0 = NONE;",
                "addClass; joinDistance 0 = NONE; addSample 1; (a distance of 0 is one) joinDistance 0 = 0;",
                "joinDistance 1 = NONE; joinDistance 8 = NONE; joinDistance HIGH = NONE; removeSample 1 0;",
                "joinDistance 0 = NONE; reset 2;", classesAt(28, 21, 15, 10, 6, 3, 1, 0),
                "joinDistance 6 = 49; joinDistance 7 = NONE; joinDistance 8 = NONE; joinDistance HIGH = NONE;");
        b.says("BAD_VALUE if step is negative.",
                "joinDistance -1 = BAD_VALUE; joinDistance LOW = BAD_VALUE;", classesAt(5, 6),
                "joinDistance -1 = BAD_VALUE; joinDistance LOW = BAD_VALUE; joinDistance 0 = 1;");
    }

    private static void order(Boundaries b) {
        b.place("Promise 36");
        b.says("All samples of all classes are ordered by their distance to the current measurement",
                "8 x addClass; measure 50 9; addSample 0; measure 50 5; addSample 7; measure 50 7; addSample 7;",
                "measure 50 3;",
                "addSample 0; measure 50 1; addSample 4; measure 50 0; nearestSample 0 = 40; nearestSample 1 = 1;",
                "nearestSample 2 = 70; nearestSample 3 = 71; nearestSample 4 = 0; nearestSample 5 = NONE;",
                "measure 50 10; nearestSample 0 = 0; nearestSample 4 = 40;");
        b.says("equal distances are ordered by class, then by the number of the sample.",
                "4 x addClass; measure 50 104; addSample 3; measure 50 100; addSample 1; measure 50 90; addSample 1;",
                "measure 50 110; addSample 3; measure 50 90; addSample 0; measure 50 96; addSample 3;",
                "measure 50 100;",
                "nearestSample 0 = 10; (104 and 96) nearestSample 1 = 30; nearestSample 2 = 32;",
                "(90, 90 and 110) nearestSample 3 = 0; nearestSample 4 = 11; nearestSample 5 = 31;",
                "nearestSample 6 = NONE; reset 2; 8 x addClass; measure 50 5; 8 x addSample 7; 8 x addSample 0;",
                "measure 50 0; (sixteen equal ones) nearestSample 0 = 0; nearestSample 7 = 7; nearestSample 8 = 70;",
                "nearestSample 15 = 77; nearestSample 16 = NONE;");
        b.says("- `rank`: position in this order, from 0",
                "8 x addClass; measure 50 5; 8 x addSample 0; 8 x addSample 1; 8 x addSample 2; 8 x addSample 3;",
                "8 x addSample 4; 8 x addSample 5; 8 x addSample 6; 7 x addSample 7; measure 50 4; addSample 7 = 7;",
                "nearestSample 0 = 77; nearestSample 1 = 0; nearestSample 62 = 75; nearestSample 63 = 76;",
                "nearestSample 64 = NONE; nearestSample -1 = BAD_VALUE;");
    }

    private static void nearestSample(Boundaries b) {
        b.says("BAD_VALUE if rank is negative",
                "nearestSample -1 = BAD_VALUE; nearestSample LOW = BAD_VALUE;", classesAt(5, 6),
                "nearestSample -1 = BAD_VALUE; nearestSample LOW = BAD_VALUE; nearestSample 0 = 10;");
        b.says("NOT_READY if there is no current measurement",
                "nearestSample 0 = NOT_READY; nearestSample HIGH = NOT_READY; addClass; nearestSample 0 = NOT_READY;",
                "measure 101 = BAD_VALUE; nearestSample 0 = NOT_READY; measure 50 1; nearestSample 0 = NONE;",
                "reset 2;",
                "nearestSample 0 = NOT_READY;");
        b.says("NONE if there are not so many samples.",
                "measure 50 1; nearestSample 0 = NONE; addClass; nearestSample 0 = NONE; addSample 0;",
                "nearestSample 0 = 0; nearestSample 1 = NONE; nearestSample 64 = NONE; nearestSample 65 = NONE;",
                "nearestSample HIGH = NONE; addSample 0; nearestSample 1 = 1; nearestSample 2 = NONE;",
                "removeSample 0 0; nearestSample 1 = NONE; removeSample 0 0; nearestSample 0 = NONE;");
    }

    private static void votes(Boundaries b) {
        b.place("Promise 37");
        b.says("all samples vote if there are fewer.",
                "3 x addClass; measure 50 100; addSample 2; measure 50 110; addSample 1; measure 50 120;",
                "addSample 1;",
                "measure 50 100; vote 1 = 2; vote 2 = 2; vote 3 = 1; vote 4 = 1; vote 64 = 1; removeSample 1 1;",
                "vote 3 = 2; vote 64 = 2;");
        b.says("among equal numbers of votes, the class whose first voting sample comes first in the order.",
                "3 x addClass; measure 50 105; addSample 0; measure 50 106; addSample 0; measure 50 101;",
                "addSample 1;",
                "measure 50 104; addSample 1; measure 50 102; addSample 2; measure 50 103; addSample 2;",
                "measure 50 100;",
                "(1, 2, 2, 1, 0, 0) vote 2 = 1; vote 3 = 2; vote 4 = 1; vote 5 = 1; vote 6 = 1; removeSample 1 0;",
                "(2, 2, 1, 0, 0) vote 5 = 2; removeSample 2 0; (2, 1, 0, 0) vote 3 = 2; vote 4 = 0;",
                "(equal distances too: the order goes by class) reset 2; 2 x addClass; measure 50 1; addSample 1;",
                "measure 50 3; addSample 0; measure 50 2; vote 2 = 0; vote 1 = 0;");
    }

    private static void vote(Boundaries b) {
        b.says("- `count`: number of votes, 1 to 64",
                "8 x addClass; measure 50 5; 8 x addSample 0; 8 x addSample 1; 8 x addSample 2; 8 x addSample 3;",
                "8 x addSample 4; 8 x addSample 5; 8 x addSample 6; 7 x addSample 7; measure 50 4; addSample 7 = 7;",
                "vote 1 = 7; vote 2 = 7; (two votes for 0) vote 3 = 0; (eight each) vote 64 = 7; removeSample 0 0;",
                "(the last of all makes eight votes for 7) vote 62 = 1; vote 63 = 7; vote 64 = 7;",
                "vote 65 = BAD_VALUE;",
                "vote 0 = BAD_VALUE;");
        b.says("BAD_VALUE if count is out of range",
                "vote 0 = BAD_VALUE; vote 65 = BAD_VALUE; vote -1 = BAD_VALUE; measure 50 1; vote 0 = BAD_VALUE;",
                "vote 65 = BAD_VALUE; addClass; addSample 0; vote 0 = BAD_VALUE; vote 65 = BAD_VALUE;",
                "vote -1 = BAD_VALUE; vote LOW = BAD_VALUE; vote HIGH = BAD_VALUE; vote 1 = 0; vote 64 = 0;");
        b.says("NOT_READY if there is no current measurement",
                "vote 1 = NOT_READY; vote 64 = NOT_READY; addClass; vote 1 = NOT_READY; measure 101 = BAD_VALUE;",
                "vote 1 = NOT_READY; measure 50 1; vote 1 = NONE; reset 2; vote 1 = NOT_READY;");
        b.says("NONE if there are no samples.",
                "measure 50 1; vote 1 = NONE; vote 64 = NONE; 8 x addClass; vote 1 = NONE; addSample 7; vote 1 = 7;",
                "vote 64 = 7; removeSample 7 0; vote 1 = NONE; vote 64 = NONE;");
    }
}
