/** The edges that the document names for promises 14 to 19. */
final class DeliveryEdgesTest {
    private DeliveryEdgesTest() { }

    static void all() {
        Check.test("promise 14: delivered throws if there is no such member", DeliveryEdgesTest::deliveredNoMember);
        Check.test("promise 14: delivered is 0 where nothing was, 48 where all was", DeliveryEdgesTest::deliveredFrom0To48);
        Check.test("promise 14: delivered of a failed member stays", DeliveryEdgesTest::deliveredOfFailed);
        Check.test("promise 15: deliveredAt throws if there is no such member", DeliveryEdgesTest::atNoMember);
        Check.test("promise 15: deliveredAt throws if there is no such place", DeliveryEdgesTest::atNoPlace);
        Check.test("promise 15: deliveredAt has no place 0 where nothing was delivered", DeliveryEdgesTest::atNothing);
        Check.test("promise 15: deliveredAt of a failed member stays", DeliveryEdgesTest::atFailed);
        Check.test("promise 16: waiting throws if there is no such member", DeliveryEdgesTest::waitingNoMember);
        Check.test("promise 16: waiting is 0 where nothing arrived, 47 at most", DeliveryEdgesTest::waitingFrom0To47);
        Check.test("promise 16: nothing waits behind a flush at those alive", DeliveryEdgesTest::waitingAfterFlush);
        Check.test("promise 16: waiting of a failed member stays", DeliveryEdgesTest::waitingOfFailed);
        Check.test("promise 17: waitingAt throws if there is no such member", DeliveryEdgesTest::waitingAtNoMember);
        Check.test("promise 17: waitingAt throws if there is no such place", DeliveryEdgesTest::waitingAtNoPlace);
        Check.test("promise 17: waitingAt has no place 0 where nothing waits", DeliveryEdgesTest::waitingAtNothing);
        Check.test("promise 17: places of waiting ones move up when one is delivered", DeliveryEdgesTest::waitingAtMovesUp);
        Check.test("promise 17: waitingAt of a failed member stays", DeliveryEdgesTest::waitingAtFailed);
        Check.test("promise 18: needs throws if there is no such message", DeliveryEdgesTest::needsNoMessage);
        Check.test("promise 18: needs throws if there is no such member", DeliveryEdgesTest::needsNoMember);
        Check.test("promise 18: needs is 0 where nothing precedes, 47 at most", DeliveryEdgesTest::needsFrom0To47);
        Check.test("promise 18: needs counts what waits, not what was delivered", DeliveryEdgesTest::needsWaiting);
        Check.test("promise 18: needs does not count concurrent ones", DeliveryEdgesTest::needsNoConcurrent);
        Check.test("promise 18: needs of a failed member is told as when it failed", DeliveryEdgesTest::needsOfFailed);
        Check.test("promise 19: firstNeeded throws if there is no such message", DeliveryEdgesTest::firstNoMessage);
        Check.test("promise 19: firstNeeded throws if there is no such member", DeliveryEdgesTest::firstNoMember);
        Check.test("promise 19: firstNeeded is NONE if there is none", DeliveryEdgesTest::firstNone);
        Check.test("promise 19: firstNeeded is the first sent one, not the first missed", DeliveryEdgesTest::firstSent);
        Check.test("promise 19: firstNeeded passes over concurrent ones", DeliveryEdgesTest::firstNoConcurrent);
        Check.test("promise 19: firstNeeded of a failed member is told as when it failed", DeliveryEdgesTest::firstOfFailed);
    }

    private static void deliveredNoMember() {
        Group x = Edges.busy();
        Edges.noMember("delivered", x, x::delivered);
        Check.same("delivered(0), the first member", x.delivered(0), 2);
        Check.same("delivered(3), the last member", x.delivered(3), 1);
    }

    private static void deliveredFrom0To48() {
        Group x = Edges.withSent(1, 48);
        Check.same("delivered(1)", x.delivered(1), 48);
        Check.same("delivered(0)", x.delivered(0), 0);
        for (int message = 0; message < 48; message++) {
            x.arrive(message, 0);
            Check.same("delivered(0)", x.delivered(0), message + 1);
        }
    }

    private static void deliveredOfFailed() {
        Group x = Edges.withSent(0, 2);
        x.arrive(0, 3);
        x.fail(0);
        x.fail(3);
        Check.same("flush()", x.flush(), 2);
        x.send(1);
        Check.same("delivered(0), both were dropped", x.delivered(0), 2);
        Check.same("delivered(3)", x.delivered(3), 1);
    }

    private static void atNoMember() {
        Group x = Edges.busy();
        Edges.noMember("deliveredAt", x, member -> x.deliveredAt(member, 0));
        Check.same("deliveredAt(0, 0), the first member", x.deliveredAt(0, 0), 0);
        Check.same("deliveredAt(3, 0), the last member", x.deliveredAt(3, 0), 2);
    }

    private static void atNoPlace() {
        Group x = Edges.busy();
        Edges.noPlace("deliveredAt", x, 2, place -> x.deliveredAt(0, place));
        Check.same("deliveredAt(0, 1), the last place", x.deliveredAt(0, 1), 1);
    }

    private static void atNothing() {
        Group x = Edges.busy();
        Edges.noPlace("deliveredAt", x, 0, place -> x.deliveredAt(2, place));
    }

    private static void atFailed() {
        Group x = Edges.withSent(0, 2);
        x.fail(0);
        Check.same("flush()", x.flush(), 2);
        Check.same("deliveredAt(0, 0), it was dropped", x.deliveredAt(0, 0), 0);
        Check.same("deliveredAt(0, 1), it was dropped", x.deliveredAt(0, 1), 1);
        x.send(1);
        Edges.noPlace("deliveredAt", x, 2, place -> x.deliveredAt(0, place));
    }

    private static void waitingNoMember() {
        Group x = Edges.busy();
        x.arrive(1, 3);
        Edges.noMember("waiting", x, x::waiting);
        Check.same("waiting(0), the first member", x.waiting(0), 0);
        Check.same("waiting(3), the last member", x.waiting(3), 1);
    }

    private static void waitingFrom0To47() {
        Group x = Edges.withSent(0, 48);
        for (int message = 1; message < 48; message++) {
            Check.same("waiting(3)", x.waiting(3), message - 1);
            x.arrive(message, 3);
        }
        Check.same("waiting(3)", x.waiting(3), 47);
        x.arrive(0, 3);
        Check.same("waiting(3)", x.waiting(3), 0);
    }

    private static void waitingAfterFlush() {
        Group x = Edges.withSent(0, 3);
        x.send(1);
        x.arrive(2, 1);
        x.arrive(2, 2);
        x.fail(3);
        x.flush();
        for (int member = 0; member < 3; member++) {
            Check.same("waiting(" + member + ")", x.waiting(member), 0);
        }
        Group y = Edges.withSent(0, 3);
        y.arrive(2, 1);
        y.fail(0);
        Check.same("flush()", y.flush(), 3);
        Check.same("waiting(1), it was dropped", y.waiting(1), 0);
    }

    private static void waitingOfFailed() {
        Group x = Edges.withSent(0, 3);
        x.arrive(1, 3);
        x.arrive(2, 3);
        x.fail(3);
        Check.same("waiting(3)", x.waiting(3), 2);
        x.fail(0);
        Check.same("flush()", x.flush(), 3);
        Check.same("waiting(3), both were dropped", x.waiting(3), 2);
    }

    private static void waitingAtNoMember() {
        Group x = Edges.busy();
        x.arrive(1, 3);
        Edges.noMember("waitingAt", x, member -> x.waitingAt(member, 0));
        Check.same("waitingAt(3, 0), the last member", x.waitingAt(3, 0), 1);
        Group y = Edges.withSent(3, 2);
        y.arrive(1, 0);
        Check.same("waitingAt(0, 0), the first member", y.waitingAt(0, 0), 1);
    }

    private static void waitingAtNoPlace() {
        Group x = Edges.withSent(0, 3);
        x.arrive(2, 1);
        x.arrive(1, 1);
        Edges.noPlace("waitingAt", x, 2, place -> x.waitingAt(1, place));
        Check.same("waitingAt(1, 0), the first place", x.waitingAt(1, 0), 2);
        Check.same("waitingAt(1, 1), the last place", x.waitingAt(1, 1), 1);
    }

    private static void waitingAtNothing() {
        Group x = Edges.busy();
        Edges.noPlace("waitingAt", x, 0, place -> x.waitingAt(0, place));
        x.arrive(0, 1);
        Edges.noPlace("waitingAt", x, 0, place -> x.waitingAt(1, place));
    }

    private static void waitingAtMovesUp() {
        Group x = Edges.withSent(0, 2);
        x.send(2);
        x.send(2);
        x.arrive(1, 1);
        x.arrive(3, 1);
        x.arrive(0, 1);
        Check.same("waitingAt(1, 0)", x.waitingAt(1, 0), 3);
        Edges.noPlace("waitingAt", x, 1, place -> x.waitingAt(1, place));
    }

    private static void waitingAtFailed() {
        Group x = Edges.withSent(0, 3);
        x.arrive(2, 3);
        x.arrive(1, 3);
        x.fail(3);
        x.fail(0);
        Check.same("flush()", x.flush(), 3);
        Check.same("waitingAt(3, 0), it was dropped", x.waitingAt(3, 0), 2);
        Check.same("waitingAt(3, 1), it was dropped", x.waitingAt(3, 1), 1);
        Edges.noPlace("waitingAt", x, 2, place -> x.waitingAt(3, place));
    }

    private static void needsNoMessage() {
        Group x = Edges.busy();
        Edges.noMessage("needs", x, message -> x.needs(message, 1));
        Check.same("needs(0, 1), the first one", x.needs(0, 1), 0);
        Check.same("needs(2, 1), the last one", x.needs(2, 1), 0);
        Check.same("needs(1, 1)", x.needs(1, 1), 1);
    }

    private static void needsNoMember() {
        Group x = Edges.busy();
        Edges.noMember("needs", x, member -> x.needs(1, member));
        Check.same("needs(1, 0), the first member", x.needs(1, 0), 0);
        Check.same("needs(1, 3), the last member", x.needs(1, 3), 1);
    }

    private static void needsFrom0To47() {
        Group x = Edges.withSent(0, 48);
        for (int message = 0; message < 48; message++) {
            Check.same("needs(" + message + ", 2)", x.needs(message, 2), message);
            Check.same("needs(" + message + ", 0)", x.needs(message, 0), 0);
        }
    }

    private static void needsWaiting() {
        Group x = Edges.withSent(0, 3);
        x.arrive(1, 1);
        Check.same("needs(2, 1), 0 is on its way, 1 waits", x.needs(2, 1), 2);
        x.lose(0, 1);
        Check.same("needs(2, 1), 0 is lost, 1 waits", x.needs(2, 1), 2);
        x.arrive(0, 2);
        Check.same("needs(2, 2), 0 was delivered", x.needs(2, 2), 1);
    }

    private static void needsNoConcurrent() {
        Group x = Edges.withSent(0, 1);
        x.send(1);
        x.send(1);
        Check.same("needs(2, 3)", x.needs(2, 3), 1);
    }

    private static void needsOfFailed() {
        Group x = Edges.withSent(0, 3);
        x.arrive(0, 3);
        x.fail(3);
        x.fail(0);
        Check.same("flush()", x.flush(), 3);
        Check.same("needs(2, 3), 0 was delivered to it", x.needs(2, 3), 1);
        Check.same("needs(2, 0), all were delivered to it", x.needs(2, 0), 0);
        Check.same("needs(2, 1), none was delivered to it", x.needs(2, 1), 2);
    }

    private static void firstNoMessage() {
        Group x = Edges.busy();
        Edges.noMessage("firstNeeded", x, message -> x.firstNeeded(message, 1));
        Check.same("firstNeeded(0, 1), the first one", x.firstNeeded(0, 1), Causewaymail.NONE);
        Check.same("firstNeeded(2, 1), the last one", x.firstNeeded(2, 1), Causewaymail.NONE);
        Check.same("firstNeeded(1, 1)", x.firstNeeded(1, 1), 0);
    }

    private static void firstNoMember() {
        Group x = Edges.busy();
        Edges.noMember("firstNeeded", x, member -> x.firstNeeded(1, member));
        Check.same("firstNeeded(1, 0), the first member", x.firstNeeded(1, 0), Causewaymail.NONE);
        Check.same("firstNeeded(1, 3), the last member", x.firstNeeded(1, 3), 0);
    }

    private static void firstNone() {
        Group x = Edges.withSent(0, 2);
        Check.same("firstNeeded(0, 1), nothing precedes", x.firstNeeded(0, 1), -1);
        x.arrive(0, 1);
        Check.same("firstNeeded(1, 1), all was delivered", x.firstNeeded(1, 1), -1);
        Check.same("firstNeeded(1, 0), at the sender", x.firstNeeded(1, 0), -1);
    }

    private static void firstSent() {
        // 0 of member 3, 1 of member 0; 2 of member 1, to which 1 was delivered before 0.
        Group x = new RealGroup();
        x.send(3);
        x.send(0);
        x.arrive(1, 1);
        x.arrive(0, 1);
        x.send(1);
        Check.same("firstNeeded(2, 2)", x.firstNeeded(2, 2), 0);
        x.arrive(0, 2);
        Check.same("firstNeeded(2, 2)", x.firstNeeded(2, 2), 1);
    }

    private static void firstNoConcurrent() {
        Group x = Edges.withSent(0, 1);
        x.send(1);
        x.send(1);
        Check.same("firstNeeded(2, 3)", x.firstNeeded(2, 3), 1);
    }

    private static void firstOfFailed() {
        Group x = Edges.withSent(0, 3);
        x.arrive(0, 3);
        x.fail(3);
        x.fail(0);
        Check.same("flush()", x.flush(), 3);
        Check.same("firstNeeded(2, 3), 0 was delivered to it", x.firstNeeded(2, 3), 1);
        Check.same("firstNeeded(2, 0), all were delivered to it", x.firstNeeded(2, 0), Causewaymail.NONE);
        Check.same("firstNeeded(2, 1), none was delivered to it", x.firstNeeded(2, 1), 0);
    }
}
