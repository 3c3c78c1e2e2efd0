/** Promises 20 to 25: the order by the token. */
final class TokenTest {
    private TokenTest() { }

    static void all() {
        Check.test("promise 20: holder", TokenTest::holder);
        Check.test("promise 21: passToken", TokenTest::passToken);
        Check.test("promise 21: passToken is refused", TokenTest::passTokenRefused);
        Check.test("promise 22: tell", TokenTest::tell);
        Check.test("promise 23: numbered", TokenTest::numbered);
        Check.test("promise 24: numberOf", TokenTest::numberOf);
        Check.test("promise 25: ordered", TokenTest::ordered);
        Check.test("promise 25: ordered of a failed member", TokenTest::orderedOfFailed);
    }

    private static void holder() {
        Group x = new RealGroup();
        Check.same("holder()", x.holder(), 0);
        x.passToken(2);
        Check.same("holder()", x.holder(), 2);
        x.fail(2);
        Check.same("holder() that failed", x.holder(), 2);
        x.flush();
        Check.same("holder() after the flush", x.holder(), 0);
        x.fail(0);
        x.flush();
        Check.same("the least alive", x.holder(), 1);
        x.fail(3);
        x.flush();
        Check.same("it stays with one alive", x.holder(), 1);
    }

    private static void passToken() {
        Group x = new RealGroup();
        x.send(1);
        x.send(2);
        x.arrive(1, 1);
        Check.same("numbered()", x.numbered(), 0);
        Check.same("passToken(0) to itself", x.passToken(0), 0);
        Check.same("passToken(1)", x.passToken(1), 2);
        Check.same("numberOf(0)", x.numberOf(0), 0);
        Check.same("numberOf(1)", x.numberOf(1), 1);
        Check.same("ordered(1)", x.ordered(1), 2);
        Check.same("passToken(1) to itself", x.passToken(1), 0);
        x.arrive(0, 2);
        Check.same("passToken(2)", x.passToken(2), 0);
        Check.same("ordered(2) knows all", x.ordered(2), 2);
        // In the order of delivery, not of sending.
        Group y = new RealGroup();
        y.send(0);
        y.send(1);
        y.send(2);
        y.arrive(2, 3);
        y.arrive(1, 3);
        y.arrive(0, 3);
        Check.same("passToken(3)", y.passToken(3), 2);
        Check.same("numberOf(0)", y.numberOf(0), 0);
        Check.same("numberOf(2)", y.numberOf(2), 1);
        Check.same("numberOf(1)", y.numberOf(1), 2);
    }

    private static void passTokenRefused() {
        Group x = new RealGroup();
        Check.outOfBounds("passToken(4)", x, () -> x.passToken(4));
        Check.outOfBounds("passToken(-1)", x, () -> x.passToken(-1));
        x.send(0);
        Check.illegalState("passToken(1) without 0", x, () -> x.passToken(1));
        x.send(0);
        x.arrive(1, 1);
        Check.illegalState("passToken(1), 1 waits", x, () -> x.passToken(1));
        x.arrive(0, 1);
        x.fail(3);
        Check.illegalState("passToken(3) that failed", x, () -> x.passToken(3));
        Check.illegalState("passToken(1) beside a failed one", x, () -> x.passToken(1));
        Check.illegalState("passToken(0) to itself beside a failed one", x, () -> x.passToken(0));
        Check.outOfBounds("passToken(4), the index first", x, () -> x.passToken(4));
        x.flush();
        Check.illegalState("passToken(3) out of the view", x, () -> x.passToken(3));
        Check.same("passToken(1)", x.passToken(1), 0);
    }

    private static void tell() {
        Group x = new RealGroup();
        x.send(0);
        x.send(0);
        Check.same("tell(1)", x.tell(1), 2);
        Check.same("tell(1) again", x.tell(1), 0);
        Check.same("tell(0), the holder", x.tell(0), 0);
        x.send(0);
        Check.same("tell(1), one is new", x.tell(1), 1);
        Check.same("tell(2)", x.tell(2), 3);
        Check.outOfBounds("tell(4)", x, () -> x.tell(4));
        Check.outOfBounds("tell(-1)", x, () -> x.tell(-1));
        x.fail(3);
        Check.illegalState("tell(3) that failed", x, () -> x.tell(3));
        Check.same("tell(2) beside a failed one", x.tell(2), 0);
        x.fail(0);
        x.flush();
        Check.illegalState("tell(3) out of the view", x, () -> x.tell(3));
        Check.same("tell(2)", x.tell(2), 0);
        x.send(2);
        x.arrive(3, 1);
        Check.same("holder()", x.holder(), 1);
        Check.same("tell(2)", x.tell(2), 1);
        Check.same("a holder that gave the token keeps what it knew", toldToFormerHolder(), 1);
    }

    private static int toldToFormerHolder() {
        Group x = new RealGroup();
        x.send(0);
        x.arrive(0, 1);
        x.passToken(1);
        x.send(1);
        return x.tell(0);
    }

    private static void numbered() {
        Group x = new RealGroup();
        x.send(0);
        x.send(1);
        Check.same("numbered()", x.numbered(), 1);
        x.arrive(1, 2);
        Check.same("numbered()", x.numbered(), 1);
        x.arrive(1, 0);
        Check.same("numbered()", x.numbered(), 2);
        x.fail(0);
        Check.same("flush()", x.flush(), 1);
        Check.same("numbered() without the dropped", x.numbered(), 1);
    }

    private static void numberOf() {
        Group x = new RealGroup();
        x.send(0);
        x.send(1);
        x.send(1);
        Check.same("numberOf(0)", x.numberOf(0), 0);
        Check.same("numberOf(1)", x.numberOf(1), Causewaymail.NONE);
        x.arrive(2, 0);
        Check.same("numberOf(2), it waits", x.numberOf(2), Causewaymail.NONE);
        x.arrive(1, 0);
        Check.same("numberOf(1)", x.numberOf(1), 1);
        Check.same("numberOf(2)", x.numberOf(2), 2);
        Check.outOfBounds("numberOf(3)", x, () -> x.numberOf(3));
        Check.outOfBounds("numberOf(-1)", x, () -> x.numberOf(-1));
        x.fail(0);
        x.flush();
        Check.same("numberOf(0) is void", x.numberOf(0), Causewaymail.NONE);
        Check.same("numberOf(1) is 1 less", x.numberOf(1), 0);
        Check.same("numberOf(2) is 1 less", x.numberOf(2), 1);
    }

    private static void ordered() {
        Group x = new RealGroup();
        x.send(0);
        x.send(1);
        x.arrive(1, 0);
        Check.same("ordered(0)", x.ordered(0), 2);
        Check.same("ordered(1), it knows none", x.ordered(1), 0);
        x.tell(1);
        Check.same("ordered(1), 0 is not there", x.ordered(1), 0);
        x.arrive(0, 1);
        Check.same("ordered(1)", x.ordered(1), 2);
        x.send(0);
        x.arrive(2, 1);
        Check.same("ordered(1), it does not know 2", x.ordered(1), 2);
        x.tell(2);
        x.arrive(0, 2);
        x.arrive(1, 2);
        Check.same("ordered(2), 2 is not there", x.ordered(2), 2);
        Check.outOfBounds("ordered(4)", x, () -> x.ordered(4));
        Check.outOfBounds("ordered(-1)", x, () -> x.ordered(-1));
        x.fail(3);
        x.flush();
        for (int member = 0; member < 3; member++) {
            Check.same("all alive know all", x.ordered(member), 3);
        }
    }

    private static void orderedOfFailed() {
        Group x = new RealGroup();
        x.send(0);
        x.send(0);
        x.send(1);
        x.arrive(2, 0);
        x.tell(3);
        x.arrive(0, 3);
        x.fail(0);
        x.fail(3);
        Check.same("ordered(0)", x.ordered(0), 3);
        Check.same("ordered(3)", x.ordered(3), 1);
        x.flush();
        Check.same("numbered()", x.numbered(), 1);
        Check.same("ordered(0) stays", x.ordered(0), 3);
        Check.same("ordered(3) stays", x.ordered(3), 1);
        Check.same("ordered(1)", x.ordered(1), 1);
        x.send(1);
        Check.same("ordered(0) stays", x.ordered(0), 3);
    }
}
