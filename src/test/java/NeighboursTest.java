/** Promises 36 and 37: the order of the nearest samples, and votes. */
public final class NeighboursTest {
    private static final Check CHECK = new Check("NeighboursTest");
    private static final int LOW = Integer.MIN_VALUE;
    private static final int HIGH = Integer.MAX_VALUE;

    public static void main(String[] args) {
        errors();
        order();
        orderOfAllThatFit();
        orderWithDrift();
        votes();
        equalVotes();
        CHECK.end();
    }

    private static void sample(SensorArray x, int label, int a) {
        x.measure(50, a, 0, 0, 0, 0);
        x.addSample(label);
    }

    private static SensorArray withClasses(int count) {
        SensorArray x = new SensorArray();
        for (int i = 0; i < count; i++) {
            x.addClass();
        }
        return x;
    }

    private static void errors() {
        SensorArray x = withClasses(1);
        for (int rank : new int[] {-1, LOW}) {
            CHECK.due("nearestSample(" + rank + ") without a measurement", x.nearestSample(rank), -3);
        }
        CHECK.due("nearestSample(0) without a measurement", x.nearestSample(0), -5);
        CHECK.due("nearestSample(HIGH) without a measurement", x.nearestSample(HIGH), -5);
        for (int count : new int[] {LOW, -1, 0, 65, HIGH}) {
            CHECK.due("vote(" + count + ") without a measurement", x.vote(count), -3);
        }
        CHECK.due("vote(64) without a measurement", x.vote(64), -5);
        x.measure(50, 1, 1, 0, 0, 0);
        CHECK.due("nearestSample(-1)", x.nearestSample(-1), -3);
        CHECK.due("nearestSample(0) without samples", x.nearestSample(0), -1);
        CHECK.due("vote(1) without samples", x.vote(1), -1);
        CHECK.due("vote(64) without samples", x.vote(64), -1);
        CHECK.due("vote(65) without samples", x.vote(65), -3);
    }

    private static void order() {
        SensorArray x = withClasses(4);
        sample(x, 3, 104);
        sample(x, 1, 100);
        sample(x, 1, 90);
        sample(x, 3, 110);
        sample(x, 0, 90);
        sample(x, 3, 96);
        x.measure(50, 100, 0, 0, 0, 0);
        // 104 and 96 are equally far, in class 3; so are 90 (twice) and 110.
        int[] order = {10, 30, 32, 0, 11, 31};
        for (int rank = 0; rank < order.length; rank++) {
            CHECK.due("nearestSample(" + rank + ")", x.nearestSample(rank), order[rank]);
        }
        CHECK.due("nearestSample(6)", x.nearestSample(6), -1);
        CHECK.due("nearestSample(64)", x.nearestSample(64), -1);
        CHECK.due("nearestSample(HIGH)", x.nearestSample(HIGH), -1);
        x.removeSample(3, 0);
        CHECK.due("nearestSample(1): the numbers moved up", x.nearestSample(1), 31);
        CHECK.due("nearestSample(4)", x.nearestSample(4), 30);
        CHECK.due("nearestSample(5)", x.nearestSample(5), -1);
        x.setBaseline(0, 500);
        CHECK.due("nearestSample(0) with another baseline", x.nearestSample(0), 10);
    }

    private static void orderOfAllThatFit() {
        SensorArray x = withClasses(8);
        for (int i = 0; i < 64; i++) {
            sample(x, i % 8, 1000 - 10 * i);
        }
        x.measure(50, 0, 0, 0, 0, 0);
        for (int rank = 0; rank < 64; rank++) {
            int i = 63 - rank;
            CHECK.due("nearestSample(" + rank + ") of 64", x.nearestSample(rank), i % 8 * 10 + i / 8);
        }
        CHECK.due("nearestSample(64) of 64", x.nearestSample(64), -1);
        CHECK.due("vote(64) of 64", x.vote(64), 7);
        CHECK.due("vote(9) of 64", x.vote(9), 7);
    }

    private static void orderWithDrift() {
        SensorArray x = withClasses(2);
        x.measure(50, 100, 100, 0, 0, 0);
        x.addReference(0);
        x.addSample(0);
        x.measure(50, 200, 100, 0, 0, 0);
        x.addReference(1);
        x.measure(50, 150, 90, 0, 0, 0);
        x.addSample(1);
        x.measure(50, 150, 96, 0, 0, 0);
        CHECK.due("nearestSample(0) across drift", x.nearestSample(0), 0);
        CHECK.due("vote(1) across drift", x.vote(1), 0);
        x.useDrift(false);
        CHECK.due("nearestSample(0) without drift", x.nearestSample(0), 10);
        CHECK.due("vote(1) without drift", x.vote(1), 1);
    }

    private static void votes() {
        SensorArray x = withClasses(3);
        sample(x, 2, 100);
        sample(x, 1, 110);
        sample(x, 1, 120);
        sample(x, 0, 130);
        sample(x, 0, 140);
        sample(x, 0, 150);
        x.measure(50, 100, 0, 0, 0, 0);
        int[] winners = {2, 2, 1, 1, 1, 0, 0};
        for (int count = 1; count <= winners.length; count++) {
            CHECK.due("vote(" + count + ")", x.vote(count), winners[count - 1]);
        }
        CHECK.due("vote(64)", x.vote(64), 0);
        CHECK.due("vote(65)", x.vote(65), -3);
        CHECK.due("vote(0)", x.vote(0), -3);
        x.measure(50, 150, 0, 0, 0, 0);
        CHECK.due("vote(1) elsewhere: the votes are counted anew", x.vote(1), 0);
        CHECK.due("vote(6) elsewhere", x.vote(6), 0);
    }

    private static void equalVotes() {
        SensorArray x = withClasses(3);
        // By distance: class 1, 2, 2, 1, 0, 0.
        sample(x, 0, 105);
        sample(x, 0, 106);
        sample(x, 1, 101);
        sample(x, 1, 104);
        sample(x, 2, 102);
        sample(x, 2, 103);
        x.measure(50, 100, 0, 0, 0, 0);
        CHECK.due("vote(2): 1 came first", x.vote(2), 1);
        CHECK.due("vote(3): 2 has two", x.vote(3), 2);
        CHECK.due("vote(4): 1 came first", x.vote(4), 1);
        CHECK.due("vote(6): 1 came first", x.vote(6), 1);
        x.removeSample(1, 0);
        CHECK.due("vote(6): 2 came before 0", x.vote(6), 2);
    }
}
