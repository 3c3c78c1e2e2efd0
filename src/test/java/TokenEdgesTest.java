/** The edges that the document names for promises 20 to 25. */
final class TokenEdgesTest {
    private TokenEdgesTest() { }

    static void all() {
        Check.test("promise 20: member 0 holds the token at first", TokenEdgesTest::holderAtFirst);
        Check.test("promise 20: a holder that failed holds the token until a flush", TokenEdgesTest::holderFailed);
        Check.test("promise 21: passToken throws if there is no such member", TokenEdgesTest::passNoMember);
        Check.test("promise 21: passToken throws if the member has failed", TokenEdgesTest::passFailed);
        Check.test("promise 21: passToken throws if any other member of the view has failed", TokenEdgesTest::passOtherFailed);
        Check.test("promise 21: passToken throws if a numbered message is on its way to the member", TokenEdgesTest::passOnWay);
        Check.test("promise 21: passToken throws if a numbered message is lost for the member", TokenEdgesTest::passLost);
        Check.test("promise 21: passToken throws if a numbered message waits at the member", TokenEdgesTest::passWaiting);
        Check.test("promise 21: passToken throws if just the last numbered message is missing", TokenEdgesTest::passLastMissing);
        Check.test("promise 21: a message without a number does not hinder passToken", TokenEdgesTest::passWithoutNumber);
        Check.test("promise 21: passToken to the holder numbers nothing", TokenEdgesTest::passToHolder);
        Check.test("promise 21: passToken returns 0 without messages", TokenEdgesTest::passNothing);
        Check.test("promise 21: passToken returns 48 where all have no number", TokenEdgesTest::pass48);
        Check.test("promise 21: passToken counts just those that had no number", TokenEdgesTest::passCountsNew);
        Check.test("promise 21: messages get numbers in the order in which they were delivered", TokenEdgesTest::passInOrder);
        Check.test("promise 21: the one that gets the token knows all numbers", TokenEdgesTest::passKnows);
        Check.test("promise 22: tell throws if there is no such member", TokenEdgesTest::tellNoMember);
        Check.test("promise 22: tell throws if the member has failed", TokenEdgesTest::tellFailed);
        Check.test("promise 22: tell returns 0 where nothing is numbered", TokenEdgesTest::tellNothing);
        Check.test("promise 22: tell returns 0 for the holder, which knows each at once", TokenEdgesTest::tellHolder);
        Check.test("promise 22: tell returns 48 at most, and 0 the second time", TokenEdgesTest::tell48);
        Check.test("promise 22: tell counts numbers of messages that are not delivered to the member", TokenEdgesTest::tellUndelivered);
        Check.test("promise 22: tell works while the holder has failed", TokenEdgesTest::tellBesideFailed);
        Check.test("promise 22: one that held the token knows just the numbers of then", TokenEdgesTest::tellFormerHolder);
        Check.test("promise 23: numbered is 0 at first and 48 at most", TokenEdgesTest::numberedFrom0To48);
        Check.test("promise 23: a message gets its number when delivered to the holder, not when it waits", TokenEdgesTest::numberedNotWaiting);
        Check.test("promise 23: nothing is numbered while the holder has failed", TokenEdgesTest::numberedHolderFailed);
        Check.test("promise 24: numberOf throws if there is no such message", TokenEdgesTest::numberOfNoMessage);
        Check.test("promise 24: numberOf is NONE if it has none", TokenEdgesTest::numberOfNone);
        Check.test("promise 24: numbers are from 0 on", TokenEdgesTest::numberOfFrom0To47);
        Check.test("promise 24: a message keeps its number when the token goes on", TokenEdgesTest::numberOfStays);
        Check.test("promise 25: ordered throws if there is no such member", TokenEdgesTest::orderedNoMember);
        Check.test("promise 25: ordered is 0 where nothing is numbered", TokenEdgesTest::orderedNothing);
        Check.test("promise 25: ordered is 0 where number 0 is not known", TokenEdgesTest::orderedUnknown);
        Check.test("promise 25: ordered is 0 where number 0 was not delivered", TokenEdgesTest::orderedUndelivered);
        Check.test("promise 25: ordered ends before the first that is not known", TokenEdgesTest::orderedToUnknown);
        Check.test("promise 25: ordered ends before the first that was not delivered", TokenEdgesTest::orderedToUndelivered);
        Check.test("promise 25: ordered is 48 where all is known and delivered", TokenEdgesTest::ordered48);
        Check.test("promise 25: ordered of a failed member stays the same number", TokenEdgesTest::orderedOfFailed);
    }

    private static void holderAtFirst() {
        Check.same("holder()", new RealGroup().holder(), 0);
    }

    private static void holderFailed() {
        Group x = new RealGroup();
        x.passToken(1);
        x.fail(1);
        Check.same("holder()", x.holder(), 1);
        x.flush();
        Check.same("holder()", x.holder(), 0);
    }

    private static void passNoMember() {
        Group x = Edges.busy();
        Edges.noMember("passToken", x, x::passToken);
        Group y = new RealGroup();
        Check.same("passToken(3), the last member", y.passToken(3), 0);
        Check.same("passToken(0), the first member", y.passToken(0), 0);
    }

    private static void passFailed() {
        for (int failed = 0; failed < 4; failed++) {
            int member = failed;
            Group x = new RealGroup();
            x.fail(member);
            Check.illegalState("passToken(" + member + ") in the view", x, () -> x.passToken(member));
            x.flush();
            Check.illegalState("passToken(" + member + ") out of the view", x, () -> x.passToken(member));
            Check.same("passToken to another one", x.passToken((member + 1) % 4), 0);
        }
    }

    private static void passOtherFailed() {
        for (int pair = 0; pair < 16; pair++) {
            int failed = pair / 4;
            int member = pair % 4;
            Group x = new RealGroup();
            x.fail(failed);
            Check.illegalState("passToken(" + member + ") beside " + failed, x, () -> x.passToken(member));
        }
    }

    private static void passOnWay() {
        Group x = Edges.withSent(0, 1);
        for (int one = 1; one < 4; one++) {
            int member = one;
            Check.illegalState("passToken(" + member + ")", x, () -> x.passToken(member));
        }
        x.arrive(0, 2);
        Check.same("passToken(2)", x.passToken(2), 0);
    }

    private static void passLost() {
        Group x = Edges.withSent(0, 1);
        x.lose(0, 1);
        Check.illegalState("passToken(1)", x, () -> x.passToken(1));
    }

    private static void passWaiting() {
        // What waits always waits for another numbered one that is missing too.
        Group x = Edges.withSent(0, 2);
        x.arrive(1, 3);
        Check.illegalState("passToken(3), 1 waits for 0", x, () -> x.passToken(3));
        x.arrive(0, 3);
        Check.same("passToken(3)", x.passToken(3), 0);
    }

    private static void passLastMissing() {
        Group x = Edges.withSent(0, 48);
        for (int message = 0; message < 47; message++) {
            x.arrive(message, 3);
        }
        Check.illegalState("passToken(3)", x, () -> x.passToken(3));
        x.arrive(47, 3);
        Check.same("passToken(3)", x.passToken(3), 0);
    }

    private static void passWithoutNumber() {
        Group x = new RealGroup();
        x.send(1);
        Check.same("passToken(2), 0 has no number", x.passToken(2), 0);
        Check.same("numberOf(0)", x.numberOf(0), Causewaymail.NONE);
    }

    private static void passToHolder() {
        Group x = Edges.withSent(0, 2);
        x.send(1);
        Check.same("passToken(0)", x.passToken(0), 0);
        Check.same("holder()", x.holder(), 0);
        Check.same("numbered()", x.numbered(), 2);
    }

    private static void passNothing() {
        Group x = new RealGroup();
        for (int member = 3; member >= 0; member--) {
            Check.same("passToken(" + member + ")", x.passToken(member), 0);
            Check.same("holder()", x.holder(), member);
        }
        Check.same("numbered()", x.numbered(), 0);
    }

    private static void pass48() {
        Group x = Edges.withSent(1, 48);
        Check.same("passToken(1)", x.passToken(1), 48);
        Check.same("numbered()", x.numbered(), 48);
        Check.same("numberOf(47)", x.numberOf(47), 47);
    }

    private static void passCountsNew() {
        Group x = Edges.withSent(0, 2);
        x.send(3);
        x.arrive(0, 3);
        x.arrive(1, 3);
        Check.same("passToken(3), 0 and 1 have numbers", x.passToken(3), 1);
        Check.same("numberOf(2)", x.numberOf(2), 2);
    }

    private static void passInOrder() {
        Group x = new RealGroup();
        x.send(1);
        x.send(2);
        x.send(3);
        Edges.arriveAt(x, 2, 2);
        Edges.arriveAt(x, 0, 2);
        Check.same("passToken(2)", x.passToken(2), 3);
        int[] due = {2, 0, 1};
        for (int message = 0; message < 3; message++) {
            Check.same("numberOf(" + message + ")", x.numberOf(message), due[message]);
        }
    }

    private static void passKnows() {
        Group x = Edges.withSent(0, 2);
        x.arrive(0, 1);
        x.arrive(1, 1);
        Check.same("ordered(1), it knows none", x.ordered(1), 0);
        x.passToken(1);
        Check.same("ordered(1)", x.ordered(1), 2);
        Check.same("tell(1)", x.tell(1), 0);
    }

    private static void tellNoMember() {
        Group x = Edges.busy();
        Edges.noMember("tell", x, x::tell);
        Check.same("tell(0), the first member", x.tell(0), 0);
        Check.same("tell(3), the last member", x.tell(3), 2);
    }

    private static void tellFailed() {
        for (int failed = 0; failed < 4; failed++) {
            int member = failed;
            Group x = Edges.withSent((member + 1) % 4, 1);
            x.fail(member);
            Check.illegalState("tell(" + member + ") in the view", x, () -> x.tell(member));
            x.flush();
            Check.illegalState("tell(" + member + ") out of the view", x, () -> x.tell(member));
        }
    }

    private static void tellNothing() {
        Group x = new RealGroup();
        x.send(1);
        for (int member = 0; member < 4; member++) {
            Check.same("tell(" + member + ")", x.tell(member), 0);
        }
    }

    private static void tellHolder() {
        Group x = Edges.withSent(0, 3);
        Check.same("tell(0)", x.tell(0), 0);
        x.send(1);
        x.arrive(3, 0);
        Check.same("tell(0)", x.tell(0), 0);
    }

    private static void tell48() {
        Group x = Edges.withSent(0, 48);
        Check.same("tell(1)", x.tell(1), 48);
        Check.same("tell(1) again", x.tell(1), 0);
        Check.same("tell(2)", x.tell(2), 48);
    }

    private static void tellUndelivered() {
        Group x = Edges.withSent(0, 2);
        Check.same("tell(3)", x.tell(3), 2);
        x.arrive(0, 3);
        Check.same("ordered(3), it knew before", x.ordered(3), 1);
        Check.same("tell(3)", x.tell(3), 0);
    }

    private static void tellBesideFailed() {
        Group x = Edges.withSent(0, 1);
        x.fail(0);
        Check.same("tell(1)", x.tell(1), 1);
        Check.same("tell(1) again", x.tell(1), 0);
    }

    private static void tellFormerHolder() {
        Group x = Edges.withSent(0, 1);
        x.send(1);
        x.arrive(0, 1);
        Check.same("passToken(1)", x.passToken(1), 1);
        x.send(1);
        Check.same("tell(0), it knew number 0", x.tell(0), 2);
    }

    private static void numberedFrom0To48() {
        Group x = new RealGroup();
        for (int count = 0; count < 48; count++) {
            Check.same("numbered()", x.numbered(), count);
            x.send(0);
        }
        Check.same("numbered()", x.numbered(), 48);
    }

    private static void numberedNotWaiting() {
        Group x = new RealGroup();
        x.send(1);
        x.send(1);
        x.arrive(1, 0);
        Check.same("numbered(), 1 waits at the holder", x.numbered(), 0);
        x.arrive(0, 0);
        Check.same("numbered()", x.numbered(), 2);
        Check.same("numberOf(0)", x.numberOf(0), 0);
        Check.same("numberOf(1)", x.numberOf(1), 1);
    }

    private static void numberedHolderFailed() {
        Group x = new RealGroup();
        x.send(1);
        x.fail(0);
        x.arrive(0, 2);
        Check.same("numbered()", x.numbered(), 0);
        x.flush();
        Check.same("numbered()", x.numbered(), 1);
    }

    private static void numberOfNoMessage() {
        Group x = Edges.busy();
        Edges.noMessage("numberOf", x, x::numberOf);
        Check.same("numberOf(0), the first one", x.numberOf(0), 0);
        Check.same("numberOf(2), the last one", x.numberOf(2), -1);
    }

    private static void numberOfNone() {
        Group x = new RealGroup();
        x.send(1);
        Check.same("numberOf(0), on its way to the holder", x.numberOf(0), Causewaymail.NONE);
        x.lose(0, 0);
        Check.same("numberOf(0), lost for the holder", x.numberOf(0), Causewaymail.NONE);
        Group y = Edges.withSent(0, 1);
        Check.same("numberOf(0)", y.numberOf(0), 0);
        y.fail(0);
        Check.same("flush()", y.flush(), 1);
        Check.same("numberOf(0), void", y.numberOf(0), Causewaymail.NONE);
    }

    private static void numberOfFrom0To47() {
        Group x = Edges.withSent(0, 48);
        for (int message = 0; message < 48; message++) {
            Check.same("numberOf(" + message + ")", x.numberOf(message), message);
        }
    }

    private static void numberOfStays() {
        // Member 1 got 1 before 0, the holder 0 before 1.
        Group x = new RealGroup();
        x.send(0);
        x.send(2);
        x.arrive(1, 1);
        x.arrive(0, 1);
        x.arrive(1, 0);
        Check.same("passToken(1)", x.passToken(1), 0);
        Check.same("numberOf(0)", x.numberOf(0), 0);
        Check.same("numberOf(1)", x.numberOf(1), 1);
        x.send(1);
        Check.same("numberOf(2), the next one", x.numberOf(2), 2);
    }

    private static void orderedNoMember() {
        Group x = Edges.busy();
        Edges.noMember("ordered", x, x::ordered);
        Check.same("ordered(0), the first member", x.ordered(0), 2);
        Check.same("ordered(3), the last member", x.ordered(3), 0);
    }

    private static void orderedNothing() {
        Group x = new RealGroup();
        x.send(1);
        for (int member = 0; member < 4; member++) {
            Check.same("ordered(" + member + ")", x.ordered(member), 0);
        }
    }

    private static void orderedUnknown() {
        Group x = Edges.withSent(0, 1);
        x.arrive(0, 1);
        Check.same("ordered(1), it was not told", x.ordered(1), 0);
        x.tell(1);
        Check.same("ordered(1)", x.ordered(1), 1);
    }

    private static void orderedUndelivered() {
        // 0 has the number 0, 1 the number 1.
        Group x = Edges.withSent(0, 1);
        x.send(1);
        x.arrive(1, 0);
        x.arrive(1, 2);
        x.tell(2);
        Check.same("ordered(2), only number 1 was delivered", x.ordered(2), 0);
        x.arrive(0, 2);
        Check.same("ordered(2)", x.ordered(2), 2);
    }

    private static void orderedToUnknown() {
        Group x = Edges.withSent(0, 3);
        x.tell(1);
        x.send(0);
        for (int message = 0; message < 4; message++) {
            x.arrive(message, 1);
        }
        Check.same("ordered(1), it knows 3 numbers", x.ordered(1), 3);
        x.tell(1);
        Check.same("ordered(1)", x.ordered(1), 4);
    }

    private static void orderedToUndelivered() {
        // The numbers 0, 1, 2 are those of 0, 1, 2.
        Group x = Edges.withSent(0, 1);
        x.send(1);
        x.send(2);
        x.arrive(1, 0);
        x.arrive(2, 0);
        x.tell(3);
        x.arrive(0, 3);
        x.arrive(2, 3);
        Check.same("ordered(3), number 1 is missing", x.ordered(3), 1);
        x.arrive(1, 3);
        Check.same("ordered(3)", x.ordered(3), 3);
    }

    private static void ordered48() {
        Group x = Edges.withSent(0, 48);
        Check.same("ordered(0)", x.ordered(0), 48);
        x.tell(1);
        for (int message = 0; message < 48; message++) {
            Check.same("ordered(1)", x.ordered(1), message);
            x.arrive(message, 1);
        }
        Check.same("ordered(1)", x.ordered(1), 48);
    }

    private static void orderedOfFailed() {
        // Numbers 0 to 2 are those of 0, 1, 2; the flush drops 0 and 1, and 3 gets the number 1.
        Group x = Edges.withSent(0, 2);
        x.send(1);
        x.arrive(2, 0);
        x.arrive(0, 3);
        x.tell(3);
        x.fail(0);
        x.fail(3);
        Check.same("ordered(0)", x.ordered(0), 3);
        Check.same("ordered(3)", x.ordered(3), 1);
        Check.same("flush()", x.flush(), 2);
        x.send(1);
        Check.same("numbered()", x.numbered(), 2);
        Check.same("ordered(0)", x.ordered(0), 3);
        Check.same("ordered(3)", x.ordered(3), 1);
        Check.same("ordered(1)", x.ordered(1), 2);
    }
}
