/** The edges that the document names for promises 9 to 13. */
final class ClockEdgesTest {
    private ClockEdgesTest() { }

    static void all() {
        Check.test("promise 9: clock throws if there is no such member", ClockEdgesTest::clockNoMember);
        Check.test("promise 9: clock throws if there is no member of", ClockEdgesTest::clockNoOf);
        Check.test("promise 9: a clock is 0 before anything is delivered, 48 at most", ClockEdgesTest::clockFrom0To48);
        Check.test("promise 9: what waits or is lost does not count in a clock", ClockEdgesTest::clockCountsDelivered);
        Check.test("promise 9: the clock of a failed member stays", ClockEdgesTest::clockOfFailed);
        Check.test("promise 10: stamp throws if there is no such message", ClockEdgesTest::stampNoMessage);
        Check.test("promise 10: stamp throws if there is no member of", ClockEdgesTest::stampNoOf);
        Check.test("promise 10: a stamp counts the message itself", ClockEdgesTest::stampCountsItself);
        Check.test("promise 10: a stamp is the clock when sent, not later", ClockEdgesTest::stampStays);
        Check.test("promise 10: the stamp of a dropped message is still told", ClockEdgesTest::stampOfDropped);
        Check.test("promise 11: precedes throws if there is no such message", ClockEdgesTest::precedesNoMessage);
        Check.test("promise 11: precedes throws if there is no such other one", ClockEdgesTest::precedesNoOther);
        Check.test("promise 11: a message does not precede itself", ClockEdgesTest::precedesItself);
        Check.test("promise 11: just as great a number is enough to be preceded", ClockEdgesTest::precedesByEqual);
        Check.test("promise 11: a number 1 less is not enough to be preceded", ClockEdgesTest::precedesNotByLess);
        Check.test("promise 11: a message precedes all later ones of its sender", ClockEdgesTest::precedesOfOneSender);
        Check.test("promise 12: precedesByHistory throws if there is no such message", ClockEdgesTest::historyNoMessage);
        Check.test("promise 12: precedesByHistory throws if there is no such other one", ClockEdgesTest::historyNoOther);
        Check.test("promise 12: a message is not in its own history", ClockEdgesTest::historyNotItself);
        Check.test("promise 12: what waits at the sender is not in the history", ClockEdgesTest::historyWithoutWaiting);
        Check.test("promise 12: what is delivered to the sender later is not in the history", ClockEdgesTest::historyWithoutLater);
        Check.test("promise 12: a history keeps dropped messages", ClockEdgesTest::historyOfDropped);
        Check.test("promise 13: areConcurrent throws if there is no such message", ClockEdgesTest::concurrentNoMessage);
        Check.test("promise 13: areConcurrent throws if there is no such other one", ClockEdgesTest::concurrentNoOther);
        Check.test("promise 13: a message is not concurrent with itself", ClockEdgesTest::concurrentItself);
        Check.test("promise 13: two are not concurrent if either precedes the other", ClockEdgesTest::concurrentEitherWay);
        Check.test("promise 13: two are concurrent if neither precedes the other", ClockEdgesTest::concurrentNeither);
    }

    private static void clockNoMember() {
        Group x = Edges.busy();
        Edges.noMember("clock", x, member -> x.clock(member, 0));
        Check.same("clock(0, 0), the first member", x.clock(0, 0), 2);
        Check.same("clock(3, 1), the last member", x.clock(3, 1), 1);
    }

    private static void clockNoOf() {
        Group x = Edges.busy();
        Edges.noMember("clock of", x, of -> x.clock(0, of));
        Check.same("clock(0, 0), of the first", x.clock(0, 0), 2);
        Check.same("clock(0, 3), of the last", x.clock(0, 3), 0);
    }

    private static void clockFrom0To48() {
        Group x = new RealGroup();
        for (int count = 0; count < 48; count++) {
            Check.same("clock(2, 2)", x.clock(2, 2), count);
            x.send(2);
        }
        Check.same("clock(2, 2)", x.clock(2, 2), 48);
        Check.same("clock(3, 2)", x.clock(3, 2), 0);
    }

    private static void clockCountsDelivered() {
        Group x = Edges.busy();
        Check.same("clock(1, 0), 1 waits", x.clock(1, 0), 0);
        Check.same("clock(2, 0), 0 is lost", x.clock(2, 0), 0);
        x.arrive(0, 1);
        Check.same("clock(1, 0)", x.clock(1, 0), 2);
    }

    private static void clockOfFailed() {
        Group x = Edges.withSent(0, 2);
        x.send(1);
        x.arrive(0, 3);
        x.fail(3);
        x.arrive(2, 0);
        x.flush();
        x.send(2);
        int[] due = {1, 0, 0, 0};
        for (int of = 0; of < 4; of++) {
            Check.same("clock(3, " + of + ")", x.clock(3, of), due[of]);
        }
    }

    private static void stampNoMessage() {
        Group x = Edges.busy();
        Edges.noMessage("stamp", x, message -> x.stamp(message, 0));
        Check.same("stamp(0, 0), the first one", x.stamp(0, 0), 1);
        Check.same("stamp(2, 1), the last one", x.stamp(2, 1), 1);
    }

    private static void stampNoOf() {
        Group x = Edges.busy();
        Edges.noMember("stamp of", x, of -> x.stamp(1, of));
        Check.same("stamp(1, 0), of the first", x.stamp(1, 0), 2);
        Check.same("stamp(1, 3), of the last", x.stamp(1, 3), 0);
    }

    private static void stampCountsItself() {
        Group x = Edges.withSent(3, 48);
        for (int message = 0; message < 48; message++) {
            Check.same("stamp(" + message + ", 3)", x.stamp(message, 3), message + 1);
            Check.same("stamp(" + message + ", 2)", x.stamp(message, 2), 0);
        }
    }

    private static void stampStays() {
        Group x = Edges.withSent(0, 1);
        x.send(1);
        x.arrive(1, 0);
        x.send(0);
        Check.same("stamp(0, 0)", x.stamp(0, 0), 1);
        Check.same("stamp(0, 1)", x.stamp(0, 1), 0);
        Check.same("stamp(2, 0)", x.stamp(2, 0), 2);
        Check.same("stamp(2, 1)", x.stamp(2, 1), 1);
    }

    private static void stampOfDropped() {
        Group x = Edges.withDropped();
        Check.same("stamp(0, 0)", x.stamp(0, 0), 1);
        Check.same("stamp(0, 1)", x.stamp(0, 1), 0);
    }

    private static void precedesNoMessage() {
        Group x = Edges.busy();
        Edges.noMessage("precedes", x, message -> x.precedes(message, 0));
        Check.same("precedes(0, 1), the first one", x.precedes(0, 1), true);
        Check.same("precedes(2, 1), the last one", x.precedes(2, 1), false);
    }

    private static void precedesNoOther() {
        Group x = Edges.busy();
        Edges.noMessage("precedes the other", x, other -> x.precedes(0, other));
        Check.same("precedes(1, 0), the first one", x.precedes(1, 0), false);
        Check.same("precedes(0, 2), the last one", x.precedes(0, 2), false);
    }

    private static void precedesItself() {
        Group x = Edges.busy();
        for (int message = 0; message < 3; message++) {
            Check.same("precedes(" + message + ", itself)", x.precedes(message, message), false);
        }
    }

    private static void precedesByEqual() {
        Group x = Edges.withSent(0, 1);
        x.arrive(0, 1);
        x.send(1);
        Check.same("stamp(1, 0), as stamp(0, 0)", x.stamp(1, 0), x.stamp(0, 0));
        Check.same("precedes(0, 1)", x.precedes(0, 1), true);
        Check.same("precedes(1, 0)", x.precedes(1, 0), false);
    }

    private static void precedesNotByLess() {
        Group x = Edges.withSent(0, 2);
        x.arrive(0, 1);
        x.send(1);
        Check.same("stamp(2, 0), 1 less than stamp(1, 0)", x.stamp(2, 0), x.stamp(1, 0) - 1);
        Check.same("precedes(1, 2)", x.precedes(1, 2), false);
        Check.same("precedes(0, 2)", x.precedes(0, 2), true);
    }

    private static void precedesOfOneSender() {
        Group x = Edges.withSent(2, 5);
        for (int pair = 0; pair < 25; pair++) {
            int one = pair / 5;
            int two = pair % 5;
            Check.same("precedes(" + one + ", " + two + ")", x.precedes(one, two), one < two);
            Check.same("precedesByHistory(" + one + ", " + two + ")", x.precedesByHistory(one, two), one < two);
        }
    }

    private static void historyNoMessage() {
        Group x = Edges.busy();
        Edges.noMessage("precedesByHistory", x, message -> x.precedesByHistory(message, 0));
        Check.same("precedesByHistory(0, 1), the first one", x.precedesByHistory(0, 1), true);
        Check.same("precedesByHistory(2, 1), the last one", x.precedesByHistory(2, 1), false);
    }

    private static void historyNoOther() {
        Group x = Edges.busy();
        Edges.noMessage("precedesByHistory the other", x, other -> x.precedesByHistory(0, other));
        Check.same("precedesByHistory(1, 0), the first one", x.precedesByHistory(1, 0), false);
        Check.same("precedesByHistory(0, 2), the last one", x.precedesByHistory(0, 2), false);
    }

    private static void historyNotItself() {
        Group x = Edges.busy();
        for (int message = 0; message < 3; message++) {
            Check.same("precedesByHistory(" + message + ", itself)", x.precedesByHistory(message, message), false);
        }
    }

    private static void historyWithoutWaiting() {
        Group x = Edges.withSent(0, 2);
        x.arrive(1, 1);
        x.send(1);
        Check.same("precedesByHistory(1, 2), 1 waits at the sender", x.precedesByHistory(1, 2), false);
        x.arrive(0, 1);
        x.send(1);
        Check.same("precedesByHistory(1, 3), 1 waits no more", x.precedesByHistory(1, 3), true);
    }

    private static void historyWithoutLater() {
        Group x = Edges.withSent(0, 1);
        x.send(1);
        x.arrive(0, 1);
        Check.same("precedesByHistory(0, 1)", x.precedesByHistory(0, 1), false);
        x.send(1);
        Check.same("precedesByHistory(0, 2)", x.precedesByHistory(0, 2), true);
    }

    private static void historyOfDropped() {
        Group x = Edges.withSent(0, 2);
        x.fail(0);
        Check.same("flush()", x.flush(), 2);
        Check.same("precedesByHistory(0, 1)", x.precedesByHistory(0, 1), true);
        Check.same("precedes(0, 1)", x.precedes(0, 1), true);
        x.send(1);
        Check.same("precedesByHistory(1, 2)", x.precedesByHistory(1, 2), false);
        Check.same("precedes(1, 2)", x.precedes(1, 2), false);
    }

    private static void concurrentNoMessage() {
        Group x = Edges.busy();
        Edges.noMessage("areConcurrent", x, message -> x.areConcurrent(message, 0));
        Check.same("areConcurrent(0, 2), the first one", x.areConcurrent(0, 2), true);
        Check.same("areConcurrent(2, 1), the last one", x.areConcurrent(2, 1), true);
    }

    private static void concurrentNoOther() {
        Group x = Edges.busy();
        Edges.noMessage("areConcurrent with", x, other -> x.areConcurrent(0, other));
        Check.same("areConcurrent(2, 0), the first one", x.areConcurrent(2, 0), true);
        Check.same("areConcurrent(1, 2), the last one", x.areConcurrent(1, 2), true);
    }

    private static void concurrentItself() {
        Group x = Edges.busy();
        for (int message = 0; message < 3; message++) {
            Check.same("areConcurrent(" + message + ", itself)", x.areConcurrent(message, message), false);
        }
    }

    private static void concurrentEitherWay() {
        Group x = Edges.withSent(0, 1);
        x.arrive(0, 3);
        x.send(3);
        Check.same("areConcurrent(0, 1)", x.areConcurrent(0, 1), false);
        Check.same("areConcurrent(1, 0)", x.areConcurrent(1, 0), false);
    }

    private static void concurrentNeither() {
        Group x = Edges.withSent(0, 1);
        x.send(3);
        x.arrive(0, 3);
        Check.same("areConcurrent(0, 1)", x.areConcurrent(0, 1), true);
        Check.same("areConcurrent(1, 0)", x.areConcurrent(1, 0), true);
    }
}
