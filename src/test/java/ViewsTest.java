/** Promises 29 to 32: failing, the four steps of a flush, and views. */
final class ViewsTest {
    private ViewsTest() { }

    static void all() {
        Check.test("promise 29: fail", ViewsTest::fail);
        Check.test("promise 29: a failed member from its failure to the flush", ViewsTest::failedDoesNothing);
        Check.test("promise 30: flush is refused", ViewsTest::flushRefused);
        Check.test("promise 30: step 1, what is dropped", ViewsTest::drops);
        Check.test("promise 30: step 1, a waiting copy keeps a message", ViewsTest::waitingKeeps);
        Check.test("promise 30: step 2, all arrive, without proposals", ViewsTest::allArrive);
        Check.test("promise 30: step 2, the holder numbers", ViewsTest::holderNumbers);
        Check.test("promise 30: step 3, the token", ViewsTest::tokenMoves);
        Check.test("promise 30: step 4, agreement", ViewsTest::agreeRest);
        Check.test("promise 30: step 4, equal proposals", ViewsTest::agreeEqual);
        Check.test("promise 30: several flushes", ViewsTest::severalFlushes);
        Check.test("promise 31: isAlive", ViewsTest::isAlive);
        Check.test("promise 32: view", ViewsTest::view);
    }

    private static void fail() {
        Group x = new RealGroup();
        Check.outOfBounds("fail(4)", x, () -> x.fail(4));
        Check.outOfBounds("fail(-1)", x, () -> x.fail(-1));
        x.fail(2);
        Check.same("isAlive(2)", x.isAlive(2), false);
        Check.illegalState("fail(2) again", x, () -> x.fail(2));
        x.flush();
        Check.illegalState("fail(2) out of the view", x, () -> x.fail(2));
        x.fail(0);
        x.fail(1);
        Check.illegalState("fail(3), the only one alive", x, () -> x.fail(3));
        Check.outOfBounds("fail(4), the index first", x, () -> x.fail(4));
        Check.same("isAlive(3)", x.isAlive(3), true);
        Group y = new RealGroup();
        y.fail(3);
        y.fail(1);
        y.fail(2);
        Check.illegalState("fail(0), the only one alive", y, () -> y.fail(0));
    }

    private static void failedDoesNothing() {
        Group x = new RealGroup();
        x.send(1);
        x.send(0);
        x.fail(0);
        String before = Snapshot.of(x);
        Check.illegalState("arrive at it", x, () -> x.arrive(0, 0));
        Check.illegalState("send of it", x, () -> x.send(0));
        Check.illegalState("tell it", x, () -> x.tell(0));
        Check.same("nothing has changed", Snapshot.of(x), before);
        x.arrive(1, 1);
        x.flush();
        Check.same("delivered(0)", x.delivered(0), 1);
        Check.same("clock(0, 1)", x.clock(0, 1), 0);
        Check.same("proposal(0, 0)", x.proposal(0, 0), Causewaymail.NONE);
        Check.same("copy(0, 0)", x.copy(0, 0), Causewaymail.ON_WAY);
    }

    private static void flushRefused() {
        Group x = new RealGroup();
        Check.illegalState("flush() without a failure", x, x::flush);
        x.send(0);
        x.fail(1);
        Check.same("flush()", x.flush(), 0);
        Check.illegalState("flush() again", x, x::flush);
    }

    private static void drops() {
        Group x = new RealGroup();
        x.send(0);
        x.send(0);
        x.arrive(0, 3);
        x.arrive(1, 3);
        x.send(3);
        x.arrive(2, 2);
        x.send(1);
        // 0 and 1 are nowhere with 1 and 2; 2 waits at 2 alone, but 0 and 1 precede it.
        x.fail(0);
        x.fail(3);
        Check.same("flush()", x.flush(), 3);
        for (int member = 0; member < 4; member++) {
            Check.same("copy(0, " + member + ")", x.copy(0, member), Causewaymail.DROPPED);
            Check.same("copy(2, " + member + ")", x.copy(2, member), Causewaymail.DROPPED);
        }
        Check.same("copy(3, 2)", x.copy(3, 2), Causewaymail.DELIVERED);
        Check.same("waiting(2)", x.waiting(2), 0);
        Check.outOfBounds("waitingAt(2, 0)", x, () -> x.waitingAt(2, 0));
        Check.same("agreed(3)", x.agreed(3), 1);
        Check.same("numberOf(3)", x.numberOf(3), 0);
        Check.outOfBounds("agreedAt(1)", x, () -> x.agreedAt(1));
        Group y = new RealGroup();
        y.send(3);
        y.send(3);
        y.arrive(1, 0);
        y.fail(3);
        Check.same("flush()", y.flush(), 2);
        Check.same("waiting(0)", y.waiting(0), 0);
    }

    private static void waitingKeeps() {
        Group x = new RealGroup();
        x.send(0);
        x.send(0);
        x.arrive(1, 1);
        x.arrive(0, 2);
        x.fail(0);
        Check.same("flush()", x.flush(), 0);
        for (int member = 1; member < 4; member++) {
            Check.same("copy(0, " + member + ")", x.copy(0, member), Causewaymail.DELIVERED);
            Check.same("copy(1, " + member + ")", x.copy(1, member), Causewaymail.DELIVERED);
        }
    }

    private static void allArrive() {
        Group x = new RealGroup();
        x.send(0);
        x.send(1);
        x.arrive(0, 2);
        x.lose(0, 1);
        x.lose(1, 2);
        x.fail(3);
        x.flush();
        Check.same("copy(0, 1), it was lost", x.copy(0, 1), Causewaymail.DELIVERED);
        Check.same("copy(1, 2), it was lost", x.copy(1, 2), Causewaymail.DELIVERED);
        Check.same("copy(1, 0), it was on its way", x.copy(1, 0), Causewaymail.DELIVERED);
        Check.same("copy(1, 3), out of the view", x.copy(1, 3), Causewaymail.ON_WAY);
        Check.same("proposal(0, 1)", x.proposal(0, 1), Causewaymail.NONE);
        Check.same("proposal(1, 0)", x.proposal(1, 0), Causewaymail.NONE);
        x.send(2);
        Check.same("proposal(2, 2)", x.proposal(2, 2), 3);
    }

    private static void holderNumbers() {
        Group x = new RealGroup();
        x.send(1);
        x.send(2);
        x.send(1);
        x.arrive(2, 0);
        x.fail(3);
        x.flush();
        Check.same("holder()", x.holder(), 0);
        Check.same("numberOf(0)", x.numberOf(0), 0);
        Check.same("numberOf(2), it waited for 0", x.numberOf(2), 1);
        Check.same("numberOf(1)", x.numberOf(1), 2);
        for (int member = 0; member < 3; member++) {
            Check.same("ordered(" + member + ")", x.ordered(member), 3);
        }
        Check.same("tell(2)", x.tell(2), 0);
    }

    private static void tokenMoves() {
        Group x = new RealGroup();
        x.passToken(2);
        x.send(1);
        x.send(2);
        x.send(3);
        x.arrive(1, 1);
        x.fail(0);
        x.fail(2);
        Check.same("flush()", x.flush(), 0);
        Check.same("holder()", x.holder(), 1);
        Check.same("numberOf(1), it had one", x.numberOf(1), 0);
        Check.same("numberOf(0)", x.numberOf(0), 1);
        Check.same("numberOf(2)", x.numberOf(2), 2);
        Check.same("ordered(1)", x.ordered(1), 3);
        Check.same("ordered(3)", x.ordered(3), 3);
        Group y = new RealGroup();
        y.passToken(2);
        y.send(2);
        y.fail(3);
        y.flush();
        Check.same("holder() is alive", y.holder(), 2);
        Check.same("ordered(0), another one is told too", y.ordered(0), 1);
        Check.same("tell(0)", y.tell(0), 0);
    }

    private static void agreeRest() {
        Group x = new RealGroup();
        x.send(0);
        x.send(0);
        x.send(0);
        x.send(1);
        for (int member = 1; member < 4; member++) {
            x.arrive(3, member == 1 ? 0 : member);
        }
        Check.same("agreed(3)", x.agreed(3), 4);
        x.arrive(2, 1);
        x.arrive(0, 3);
        x.fail(0);
        // The greatest proposals are 5 for 0 (member 3), 2 for 1 (the failed one) and 5 for 2 (member 1).
        Check.same("flush()", x.flush(), 2);
        Check.same("agreed(0)", x.agreed(0), 5);
        Check.same("agreed(1)", x.agreed(1), Causewaymail.NONE);
        Check.same("agreed(2)", x.agreed(2), Causewaymail.NONE);
        Check.same("agreed(3)", x.agreed(3), 4);
        // The proposals of the failed count in the order: 0 has 3 by it, 1 has 2, 2 has 1.
        Group y = new RealGroup();
        y.send(2);
        y.send(1);
        y.send(0);
        y.arrive(1, 0);
        y.arrive(0, 0);
        y.arrive(2, 1);
        y.fail(0);
        y.flush();
        Check.same("agreed(0)", y.agreed(0), 3);
        Check.same("agreed(1)", y.agreed(1), 1);
        Check.same("agreed(2)", y.agreed(2), 2);
        Check.same("agreedAt(0)", y.agreedAt(0), 1);
        Check.same("agreedAt(2)", y.agreedAt(2), 0);
    }

    private static void agreeEqual() {
        Group x = new RealGroup();
        x.send(3);
        x.send(2);
        x.send(1);
        x.fail(0);
        x.flush();
        for (int message = 0; message < 3; message++) {
            Check.same("agreed(" + message + ")", x.agreed(message), message + 1);
            Check.same("agreedAt(" + message + ")", x.agreedAt(message), message);
        }
        // All that are left have proposed for 3, but numbers of a flush go on from the greatest agreed one.
        x.send(1);
        x.send(1);
        x.arrive(4, 2);
        x.arrive(3, 2);
        x.fail(3);
        x.flush();
        Check.same("agreed(3)", x.agreed(3), 4);
        Check.same("agreed(4)", x.agreed(4), 5);
        Check.same("proposal(3, 2)", x.proposal(3, 2), 5);
    }

    private static void severalFlushes() {
        Group x = new RealGroup();
        x.send(0);
        x.fail(0);
        Check.same("flush()", x.flush(), 1);
        x.send(1);
        x.fail(1);
        Check.same("flush() counts the new ones", x.flush(), 1);
        x.send(2);
        x.arrive(2, 3);
        x.fail(2);
        Check.same("flush()", x.flush(), 0);
        Check.same("holder()", x.holder(), 3);
        Check.same("numbered()", x.numbered(), 1);
        Check.same("numberOf(2)", x.numberOf(2), 0);
        Check.same("agreed(2)", x.agreed(2), 1);
        Check.same("ordered(3)", x.ordered(3), 1);
        Check.same("copy(0, 3)", x.copy(0, 3), Causewaymail.DROPPED);
    }

    private static void isAlive() {
        Group x = new RealGroup();
        x.fail(1);
        for (int member = 0; member < 4; member++) {
            Check.same("isAlive(" + member + ")", x.isAlive(member), member != 1);
        }
        x.flush();
        Check.same("isAlive(1)", x.isAlive(1), false);
        Check.outOfBounds("isAlive(4)", x, () -> x.isAlive(4));
        Check.outOfBounds("isAlive(-1)", x, () -> x.isAlive(-1));
    }

    private static void view() {
        Group x = new RealGroup();
        Check.same("view()", x.view(), 0);
        x.fail(1);
        Check.same("view() before the flush", x.view(), 0);
        x.flush();
        Check.same("view()", x.view(), 1);
        x.fail(0);
        x.fail(2);
        x.flush();
        Check.same("view()", x.view(), 2);
    }
}
