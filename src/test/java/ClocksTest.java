/** Promises 9 to 13: clocks, stamps and what precedes what. */
final class ClocksTest {
    private ClocksTest() { }

    static void all() {
        Check.test("promise 9: clock", ClocksTest::clock);
        Check.test("promise 10: stamp", ClocksTest::stamp);
        Check.test("promise 11: precedes", ClocksTest::precedes);
        Check.test("promise 12: precedesByHistory", ClocksTest::precedesByHistory);
        Check.test("promise 13: areConcurrent", ClocksTest::areConcurrent);
        Check.test("promises 9 to 13: after a drop", ClocksTest::afterDrop);
    }

    private static void clock() {
        Group x = new RealGroup();
        x.send(0);
        x.send(0);
        x.send(2);
        x.arrive(1, 1);
        Check.same("clock(0, 0)", x.clock(0, 0), 2);
        Check.same("clock(2, 2)", x.clock(2, 2), 1);
        Check.same("clock(2, 0)", x.clock(2, 0), 0);
        Check.same("clock(1, 0), 1 waits", x.clock(1, 0), 0);
        x.arrive(2, 1);
        x.arrive(0, 1);
        Check.same("clock(1, 0)", x.clock(1, 0), 2);
        Check.same("clock(1, 2)", x.clock(1, 2), 1);
        Check.same("clock(1, 1)", x.clock(1, 1), 0);
        Check.outOfBounds("clock(4, 0)", x, () -> x.clock(4, 0));
        Check.outOfBounds("clock(-1, 0)", x, () -> x.clock(-1, 0));
        Check.outOfBounds("clock(0, 4)", x, () -> x.clock(0, 4));
        Check.outOfBounds("clock(0, -1)", x, () -> x.clock(0, -1));
    }

    private static void stamp() {
        Group x = new RealGroup();
        x.send(0);
        x.arrive(0, 1);
        x.send(1);
        x.send(1);
        x.arrive(1, 0);
        x.send(0);
        int[][] due = {{1, 0, 0, 0}, {1, 1, 0, 0}, {1, 2, 0, 0}, {2, 1, 0, 0}};
        for (int message = 0; message < 4; message++) {
            for (int of = 0; of < 4; of++) {
                Check.same("stamp(" + message + ", " + of + ")", x.stamp(message, of), due[message][of]);
            }
        }
        x.arrive(2, 0);
        Check.same("a stamp stays", x.stamp(3, 1), 1);
        Check.outOfBounds("stamp(4, 0)", x, () -> x.stamp(4, 0));
        Check.outOfBounds("stamp(-1, 0)", x, () -> x.stamp(-1, 0));
        Check.outOfBounds("stamp(0, 4)", x, () -> x.stamp(0, 4));
        Check.outOfBounds("stamp(0, -1)", x, () -> x.stamp(0, -1));
    }

    /** 0 and 3 of member 0, 1 of member 1 behind 0, 2 of member 2 behind 0 and 1, 4 of member 3 alone. */
    private static Group chain() {
        Group x = new RealGroup();
        x.send(0);
        x.arrive(0, 1);
        x.send(1);
        x.arrive(0, 2);
        x.arrive(1, 2);
        x.send(2);
        x.send(0);
        x.send(3);
        return x;
    }

    private static final int[][] BEFORE = {{0, 1}, {0, 2}, {0, 3}, {1, 2}};

    private static boolean isDueBefore(int message, int other) {
        for (int[] pair : BEFORE) {
            if (pair[0] == message && pair[1] == other) {
                return true;
            }
        }
        return false;
    }

    private static void precedes() {
        Group x = chain();
        for (int one = 0; one < 5; one++) {
            for (int two = 0; two < 5; two++) {
                Check.same("precedes(" + one + ", " + two + ")", x.precedes(one, two), isDueBefore(one, two));
            }
        }
        Check.outOfBounds("precedes(5, 0)", x, () -> x.precedes(5, 0));
        Check.outOfBounds("precedes(0, 5)", x, () -> x.precedes(0, 5));
        Check.outOfBounds("precedes(-1, 0)", x, () -> x.precedes(-1, 0));
        Check.outOfBounds("precedes(0, -1)", x, () -> x.precedes(0, -1));
        Check.outOfBounds("precedes(-1, -1)", x, () -> x.precedes(-1, -1));
    }

    private static void precedesByHistory() {
        Group x = chain();
        // What comes to a sender behind its sending is not in the history.
        x.arrive(4, 0);
        x.arrive(1, 0);
        for (int one = 0; one < 5; one++) {
            for (int two = 0; two < 5; two++) {
                Check.same("precedesByHistory(" + one + ", " + two + ")",
                        x.precedesByHistory(one, two), isDueBefore(one, two));
            }
        }
        Check.outOfBounds("precedesByHistory(5, 0)", x, () -> x.precedesByHistory(5, 0));
        Check.outOfBounds("precedesByHistory(0, 5)", x, () -> x.precedesByHistory(0, 5));
        Check.outOfBounds("precedesByHistory(-1, 0)", x, () -> x.precedesByHistory(-1, 0));
        Check.outOfBounds("precedesByHistory(0, -1)", x, () -> x.precedesByHistory(0, -1));
    }

    private static void areConcurrent() {
        Group x = chain();
        for (int one = 0; one < 5; one++) {
            for (int two = 0; two < 5; two++) {
                boolean due = one != two && !isDueBefore(one, two) && !isDueBefore(two, one);
                Check.same("areConcurrent(" + one + ", " + two + ")", x.areConcurrent(one, two), due);
            }
        }
        Check.outOfBounds("areConcurrent(5, 0)", x, () -> x.areConcurrent(5, 0));
        Check.outOfBounds("areConcurrent(0, 5)", x, () -> x.areConcurrent(0, 5));
        Check.outOfBounds("areConcurrent(-1, 0)", x, () -> x.areConcurrent(-1, 0));
        Check.outOfBounds("areConcurrent(0, -1)", x, () -> x.areConcurrent(0, -1));
    }

    private static void afterDrop() {
        Group x = new RealGroup();
        x.send(0);
        x.send(0);
        x.arrive(1, 1);
        x.send(2);
        x.fail(0);
        Check.same("flush()", x.flush(), 2);
        Check.same("stamp of a dropped one", x.stamp(1, 0), 2);
        Check.same("precedes of dropped ones", x.precedes(0, 1), true);
        Check.same("precedesByHistory of dropped ones", x.precedesByHistory(0, 1), true);
        Check.same("areConcurrent with a dropped one", x.areConcurrent(1, 2), true);
        Check.same("clock of the failed", x.clock(0, 0), 2);
        Check.same("clock of the others", x.clock(1, 0), 0);
        Check.same("clock behind the flush", x.clock(1, 2), 1);
    }
}
