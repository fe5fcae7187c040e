/** Promises 34 and 35: the steps of the single-linkage clustering and their distances. */
public final class ClusteringTest {
    private static final Check CHECK = new Check("ClusteringTest");

    public static void main(String[] args) {
        steps();
        ties();
        headOfTheOtherGroup();
        allEqual();
        distancesAfterChanges();
        emptyClasses();
        CHECK.end();
    }

    /** Classes with one sample each, at these readings of sensor 0. */
    private static SensorArray withClassesAt(int... readings) {
        SensorArray x = new SensorArray();
        for (int i = 0; i < readings.length; i++) {
            x.addClass();
            x.measure(50, readings[i], 0, 0, 0, 0);
            x.addSample(i);
        }
        return x;
    }

    private static void joins(String what, SensorArray x, int[] pairs, int[] roots) {
        for (int step = 0; step < pairs.length; step++) {
            CHECK.due(what + ": joinedGroups(" + step + ")", x.joinedGroups(step), pairs[step]);
            int distance = roots[step] * roots[step];
            CHECK.due(what + ": joinDistance(" + step + ")", x.joinDistance(step), distance);
        }
        for (int step : new int[] {pairs.length, pairs.length + 1, 7, 8, 9, 64, Integer.MAX_VALUE}) {
            CHECK.due(what + ": joinedGroups(" + step + ")", x.joinedGroups(step), -1);
            CHECK.due(what + ": joinDistance(" + step + ")", x.joinDistance(step), -1);
        }
        for (int step : new int[] {-1, -2, Integer.MIN_VALUE}) {
            CHECK.due(what + ": joinedGroups(" + step + ")", x.joinedGroups(step), -3);
            CHECK.due(what + ": joinDistance(" + step + ")", x.joinDistance(step), -3);
        }
    }

    private static void steps() {
        // The chain 100 - 107 - 120 joins from class to class, though its ends are 20 apart.
        joins("chain", withClassesAt(100, 500, 107, 120, 530), new int[] {2, 3, 14, 1},
                new int[] {7, 13, 30, 380});
        joins("two", withClassesAt(9, 5), new int[] {1}, new int[] {4});
        joins("eight", withClassesAt(0, 1, 3, 6, 10, 15, 21, 28),
                new int[] {1, 2, 3, 4, 5, 6, 7}, new int[] {1, 2, 3, 4, 5, 6, 7});
        joins("eight, the other way", withClassesAt(28, 21, 15, 10, 6, 3, 1, 0),
                new int[] {67, 56, 45, 34, 23, 12, 1}, new int[] {1, 2, 3, 4, 5, 6, 7});
    }

    private static void ties() {
        // 0 and 3 at 100 and 110, 1 and 2 at 300 and 310: the lowest first group comes first.
        joins("ties", withClassesAt(100, 300, 310, 110), new int[] {3, 12, 1}, new int[] {10, 10, 190});
        // 1 lies between 2 and 0.
        joins("middle", withClassesAt(120, 110, 100), new int[] {1, 2}, new int[] {10, 10});
        // 0 is as near to 2 as to 3; then the group (0, 2) is as near to 1 as to 3.
        joins("second", withClassesAt(100, 120, 110, 90), new int[] {2, 1, 3}, new int[] {10, 10, 10});
    }

    /** The near pair is (2, 3); 3 belongs to the group of 0, so that the pair is called 0 and 2. */
    private static void headOfTheOtherGroup() {
        joins("head", withClassesAt(100, 900, 120, 108), new int[] {3, 2, 1}, new int[] {8, 12, 780});
        // Equal distances 10: of 1 to 2, and of 4 to 3, which then belongs to the group of 0.
        joins("head in a tie", withClassesAt(100, 500, 510, 105, 115), new int[] {3, 4, 12, 1},
                new int[] {5, 10, 10, 385});
    }

    private static void allEqual() {
        joins("equal", withClassesAt(7, 7, 7, 7), new int[] {1, 2, 3}, new int[] {0, 0, 0});
    }

    private static void distancesAfterChanges() {
        SensorArray x = withClassesAt(100, 104, 120);
        CHECK.due("joinDistance(1), the first call", x.joinDistance(1), 256);
        x.setBaseline(0, 500);
        CHECK.due("joinDistance(1) right after a new baseline", x.joinDistance(1), 1024);
        x.removeSample(1, 0);
        CHECK.due("joinDistance(0) right after a removal", x.joinDistance(0), 1600);
    }

    private static void emptyClasses() {
        SensorArray none = new SensorArray();
        joins("no class", none, new int[0], new int[0]);
        SensorArray x = withClassesAt(100, 101, 200, 230);
        joins("all", x, new int[] {1, 23, 2}, new int[] {1, 30, 99});
        x.removeSample(1, 0);
        joins("class 1 empty", x, new int[] {23, 2}, new int[] {30, 100});
        x.removeSample(2, 0);
        joins("class 2 empty", x, new int[] {3}, new int[] {130});
        x.removeSample(0, 0);
        joins("one class left", x, new int[0], new int[0]);
        x.removeSample(3, 0);
        joins("all empty", x, new int[0], new int[0]);
    }
}
