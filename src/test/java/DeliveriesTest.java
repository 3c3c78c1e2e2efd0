/** Promises 14 to 19: what was delivered, what waits and why. */
final class DeliveriesTest {
    private DeliveriesTest() { }

    static void all() {
        Check.test("promise 14: delivered", DeliveriesTest::delivered);
        Check.test("promise 15: deliveredAt", DeliveriesTest::deliveredAt);
        Check.test("promise 16: waiting", DeliveriesTest::waiting);
        Check.test("promise 17: waitingAt", DeliveriesTest::waitingAt);
        Check.test("promise 18: needs", DeliveriesTest::needs);
        Check.test("promise 19: firstNeeded", DeliveriesTest::firstNeeded);
        Check.test("promises 14 to 19: a failed member is told as it was", DeliveriesTest::failedStays);
    }

    private static void delivered() {
        Group x = new RealGroup();
        x.send(0);
        x.send(0);
        x.send(1);
        x.arrive(1, 1);
        Check.same("delivered(0)", x.delivered(0), 2);
        Check.same("delivered(1)", x.delivered(1), 1);
        Check.same("delivered(2)", x.delivered(2), 0);
        x.arrive(0, 1);
        Check.same("delivered(1)", x.delivered(1), 3);
        Check.outOfBounds("delivered(4)", x, () -> x.delivered(4));
        Check.outOfBounds("delivered(-1)", x, () -> x.delivered(-1));
    }

    private static void deliveredAt() {
        Group x = new RealGroup();
        x.send(0);
        x.send(1);
        x.send(2);
        x.arrive(2, 1);
        x.arrive(0, 1);
        Check.same("deliveredAt(1, 0)", x.deliveredAt(1, 0), 1);
        Check.same("deliveredAt(1, 1)", x.deliveredAt(1, 1), 2);
        Check.same("deliveredAt(1, 2)", x.deliveredAt(1, 2), 0);
        Check.outOfBounds("deliveredAt(1, 3)", x, () -> x.deliveredAt(1, 3));
        Check.outOfBounds("deliveredAt(1, -1)", x, () -> x.deliveredAt(1, -1));
        Check.outOfBounds("deliveredAt(3, 0)", x, () -> x.deliveredAt(3, 0));
        Check.outOfBounds("deliveredAt(4, 0)", x, () -> x.deliveredAt(4, 0));
        Check.outOfBounds("deliveredAt(-1, 0)", x, () -> x.deliveredAt(-1, 0));
        Check.outOfBounds("deliveredAt(0, MAX)", x, () -> x.deliveredAt(0, Integer.MAX_VALUE));
    }

    private static void waiting() {
        Group x = new RealGroup();
        x.send(0);
        x.send(0);
        x.send(0);
        Check.same("waiting(1)", x.waiting(1), 0);
        x.arrive(2, 1);
        x.arrive(1, 1);
        Check.same("waiting(1)", x.waiting(1), 2);
        Check.same("waiting(2)", x.waiting(2), 0);
        x.arrive(0, 1);
        Check.same("waiting(1)", x.waiting(1), 0);
        Check.outOfBounds("waiting(4)", x, () -> x.waiting(4));
        Check.outOfBounds("waiting(-1)", x, () -> x.waiting(-1));
        x.arrive(2, 3);
        x.arrive(0, 3);
        Check.same("waiting(3)", x.waiting(3), 1);
    }

    private static void waitingAt() {
        Group x = new RealGroup();
        for (int count = 0; count < 4; count++) {
            x.send(0);
        }
        x.send(1);
        x.send(1);
        x.arrive(2, 2);
        x.arrive(5, 2);
        x.arrive(1, 2);
        x.arrive(3, 2);
        int[] first = {2, 5, 1, 3};
        for (int place = 0; place < 4; place++) {
            Check.same("waitingAt(2, " + place + ")", x.waitingAt(2, place), first[place]);
        }
        Check.outOfBounds("waitingAt(2, 4)", x, () -> x.waitingAt(2, 4));
        Check.outOfBounds("waitingAt(2, -1)", x, () -> x.waitingAt(2, -1));
        Check.outOfBounds("waitingAt(4, 0)", x, () -> x.waitingAt(4, 0));
        Check.outOfBounds("waitingAt(-1, 0)", x, () -> x.waitingAt(-1, 0));
        Check.outOfBounds("waitingAt(0, 0)", x, () -> x.waitingAt(0, 0));
        Check.same("arrive(4, 2)", x.arrive(4, 2), 2);
        int[] then = {2, 1, 3};
        for (int place = 0; place < 3; place++) {
            Check.same("waitingAt(2, " + place + ")", x.waitingAt(2, place), then[place]);
        }
        Check.outOfBounds("waitingAt(2, 3)", x, () -> x.waitingAt(2, 3));
    }

    /** 0 and 1 of member 0, 2 of member 1 behind both, 3 of member 3 alone. */
    private static Group three() {
        Group x = new RealGroup();
        x.send(0);
        x.send(0);
        x.arrive(0, 1);
        x.arrive(1, 1);
        x.send(1);
        x.send(3);
        return x;
    }

    private static void needs() {
        Group x = three();
        Check.same("needs(2, 2)", x.needs(2, 2), 2);
        Check.same("needs(2, 1)", x.needs(2, 1), 0);
        Check.same("needs(0, 2), on its way but behind nothing", x.needs(0, 2), 0);
        Check.same("needs(3, 2)", x.needs(3, 2), 0);
        x.arrive(1, 2);
        Check.same("needs(2, 2), 1 only waits", x.needs(2, 2), 2);
        x.arrive(0, 2);
        Check.same("needs(2, 2)", x.needs(2, 2), 0);
        Check.outOfBounds("needs(4, 0)", x, () -> x.needs(4, 0));
        Check.outOfBounds("needs(-1, 0)", x, () -> x.needs(-1, 0));
        Check.outOfBounds("needs(0, 4)", x, () -> x.needs(0, 4));
        Check.outOfBounds("needs(0, -1)", x, () -> x.needs(0, -1));
    }

    private static void firstNeeded() {
        Group x = three();
        Check.same("firstNeeded(2, 3)", x.firstNeeded(2, 3), 0);
        x.arrive(0, 3);
        Check.same("firstNeeded(2, 3)", x.firstNeeded(2, 3), 1);
        x.arrive(1, 3);
        Check.same("firstNeeded(2, 3)", x.firstNeeded(2, 3), Causewaymail.NONE);
        Check.same("firstNeeded(3, 0)", x.firstNeeded(3, 0), Causewaymail.NONE);
        Check.outOfBounds("firstNeeded(4, 0)", x, () -> x.firstNeeded(4, 0));
        Check.outOfBounds("firstNeeded(-1, 0)", x, () -> x.firstNeeded(-1, 0));
        Check.outOfBounds("firstNeeded(0, 4)", x, () -> x.firstNeeded(0, 4));
        Check.outOfBounds("firstNeeded(0, -1)", x, () -> x.firstNeeded(0, -1));
    }

    private static void failedStays() {
        Group x = new RealGroup();
        x.send(0);
        x.send(0);
        x.arrive(1, 1);
        x.send(1);
        x.fail(0);
        x.fail(1);
        Check.same("flush()", x.flush(), 3);
        Check.same("waiting(1)", x.waiting(1), 1);
        Check.same("waitingAt(1, 0)", x.waitingAt(1, 0), 1);
        Check.same("copy(1, 1)", x.copy(1, 1), Causewaymail.DROPPED);
        Check.same("delivered(0)", x.delivered(0), 2);
        Check.same("deliveredAt(0, 1)", x.deliveredAt(0, 1), 1);
        Check.same("needs(1, 0)", x.needs(1, 0), 0);
        Check.same("needs(1, 1)", x.needs(1, 1), 1);
        Check.same("firstNeeded(1, 0)", x.firstNeeded(1, 0), Causewaymail.NONE);
        Check.same("firstNeeded(1, 1)", x.firstNeeded(1, 1), 0);
        Check.same("needs(1, 2) of one alive", x.needs(1, 2), 1);
        Check.same("delivered(2)", x.delivered(2), 0);
    }
}
