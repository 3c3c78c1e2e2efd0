/** The edges that the document names for promises 29, 31 and 32, and for members that failed. */
final class ViewEdgesTest {
    private ViewEdgesTest() { }

    static void all() {
        Check.test("promise 29: fail throws if there is no such member", ViewEdgesTest::failNoMember);
        Check.test("promise 29: fail throws if it has failed", ViewEdgesTest::failTwice);
        Check.test("promise 29: fail throws if it is the only one alive, the others in the view", ViewEdgesTest::failLastInView);
        Check.test("promise 29: fail throws if it is the only one alive, the others out of the view", ViewEdgesTest::failLastOfView);
        Check.test("promise 29: three members can fail, of two alive either", ViewEdgesTest::failThree);
        Check.test("promise 29: a failed member stays in the view until a flush", ViewEdgesTest::staysInView);
        Check.test("promise 29: nothing arrives at a failed member any more, not in a flush either", ViewEdgesTest::nothingArrives);
        Check.test("promise 29: a failed member does nothing", ViewEdgesTest::doesNothing);
        Check.test("promise 29: what is asked about a failed member is told as it was", ViewEdgesTest::toldAsItWas);
        Check.test("promise 31: isAlive throws if there is no such member", ViewEdgesTest::isAliveNoMember);
        Check.test("promise 31: isAlive is false from the failure on, not from the flush on", ViewEdgesTest::isAliveAtOnce);
        Check.test("promise 31: the last one stays alive", ViewEdgesTest::isAliveLast);
        Check.test("promise 32: view is 0 at first", ViewEdgesTest::viewAtFirst);
        Check.test("promise 32: a failure or a refused flush does not change the view", ViewEdgesTest::viewStays);
        Check.test("promise 32: a view has the next number, however many members leave", ViewEdgesTest::viewNext);
        Check.test("promise 32: view is 3 at most", ViewEdgesTest::viewThree);
    }

    private static void failNoMember() {
        Group x = Edges.busy();
        Edges.noMember("fail", x, x::fail);
        x.fail(0);
        x.fail(3);
        Check.same("isAlive(0), the first member", x.isAlive(0), false);
        Check.same("isAlive(3), the last member", x.isAlive(3), false);
    }

    private static void failTwice() {
        for (int failed = 0; failed < 4; failed++) {
            int member = failed;
            Group x = new RealGroup();
            x.fail(member);
            Check.illegalState("fail(" + member + ") in the view", x, () -> x.fail(member));
            x.flush();
            Check.illegalState("fail(" + member + ") out of the view", x, () -> x.fail(member));
        }
    }

    private static void failAllBut(Group x, int last) {
        for (int member = 0; member < 4; member++) {
            if (member != last) {
                x.fail(member);
            }
        }
    }

    private static void failLastInView() {
        for (int one = 0; one < 4; one++) {
            int last = one;
            Group x = new RealGroup();
            failAllBut(x, last);
            Check.illegalState("fail(" + last + ")", x, () -> x.fail(last));
        }
    }

    private static void failLastOfView() {
        for (int one = 0; one < 4; one++) {
            int last = one;
            Group x = new RealGroup();
            failAllBut(x, last);
            x.flush();
            Check.illegalState("fail(" + last + ")", x, () -> x.fail(last));
        }
    }

    private static void failThree() {
        for (int last = 0; last < 4; last++) {
            Group x = new RealGroup();
            failAllBut(x, last);
            for (int member = 0; member < 4; member++) {
                Check.same("isAlive(" + member + ")", x.isAlive(member), member == last);
            }
        }
    }

    private static void staysInView() {
        Group x = Edges.withSent(1, 1);
        x.fail(3);
        Check.illegalState("send(1)", x, () -> x.send(1));
        Check.illegalState("passToken(1)", x, () -> x.passToken(1));
        Edges.arriveAt(x, 0, 0, 2);
        Check.same("agreed(0), it needs the failed one", x.agreed(0), Causewaymail.NONE);
        x.flush();
        Check.same("agreed(0)", x.agreed(0), 1);
        Check.same("passToken(1)", x.passToken(1), 0);
        Check.same("send(1)", x.send(1), 1);
    }

    private static void nothingArrives() {
        // At member 3: 0 is on its way, 1 is lost, 2 waits.
        Group x = Edges.withSent(0, 3);
        x.lose(1, 3);
        x.arrive(2, 3);
        x.fail(3);
        Check.illegalState("arrive(0, 3)", x, () -> x.arrive(0, 3));
        x.flush();
        Check.same("copy(0, 3)", x.copy(0, 3), Causewaymail.ON_WAY);
        Check.same("copy(1, 3)", x.copy(1, 3), Causewaymail.LOST);
        Check.same("copy(2, 3)", x.copy(2, 3), Causewaymail.WAITING);
        Check.same("delivered(3)", x.delivered(3), 0);
        // In a second flush neither.
        x.fail(2);
        x.flush();
        Check.same("copy(0, 3)", x.copy(0, 3), Causewaymail.ON_WAY);
        Check.same("copy(1, 3)", x.copy(1, 3), Causewaymail.LOST);
    }

    private static void doesNothing() {
        Group x = Edges.withSent(1, 1);
        x.fail(0);
        Check.illegalState("send(0)", x, () -> x.send(0));
        Check.illegalState("arrive(0, 0)", x, () -> x.arrive(0, 0));
        Check.illegalState("passToken(0)", x, () -> x.passToken(0));
        Check.illegalState("tell(0)", x, () -> x.tell(0));
        x.arrive(0, 2);
        Check.same("numbered(), the holder numbers nothing", x.numbered(), 0);
        Check.same("proposal(0, 0)", x.proposal(0, 0), Causewaymail.NONE);
    }

    /** All that is asked about a member but its copies, for the first messages. */
    private static String toldOf(Group x, int member, int messages) {
        StringBuilder text = new StringBuilder();
        for (int of = 0; of < 4; of++) {
            text.append(x.clock(member, of)).append(' ');
        }
        for (int place = 0; place < x.delivered(member); place++) {
            text.append(" delivered ").append(x.deliveredAt(member, place));
        }
        for (int place = 0; place < x.waiting(member); place++) {
            text.append(" waiting ").append(x.waitingAt(member, place));
        }
        for (int message = 0; message < messages; message++) {
            text.append(" needs ").append(x.needs(message, member)).append(' ').append(x.firstNeeded(message, member));
            text.append(" proposal ").append(x.proposal(message, member));
        }
        return text.append(" ordered ").append(x.ordered(member)).append('\n').toString();
    }

    private static void toldAsItWas() {
        // At member 3 are 0, 3 and 4 delivered, and 2 waits; the flush drops 1 and 2, it keeps 0, 3 and 4.
        Group x = Edges.withSent(0, 3);
        x.send(1);
        x.send(1);
        x.arrive(3, 0);
        Edges.arriveAt(x, 0, 3, 2);
        x.arrive(2, 3);
        x.arrive(3, 3);
        x.arrive(4, 3);
        x.tell(3);
        String three = toldOf(x, 3, 5);
        String zero = toldOf(x, 0, 5);
        x.fail(3);
        Check.same("member 3, failed", toldOf(x, 3, 5), three);
        x.fail(0);
        x.lose(1, 3);
        Check.same("flush()", x.flush(), 2);
        Check.same("member 3, flushed", toldOf(x, 3, 5), three);
        Check.same("member 0, flushed", toldOf(x, 0, 5), zero);
        x.send(2);
        x.arrive(5, 1);
        x.fail(1);
        x.flush();
        Check.same("member 3, flushed twice", toldOf(x, 3, 5), three);
        Check.same("member 0, flushed twice", toldOf(x, 0, 5), zero);
    }

    private static void isAliveNoMember() {
        Group x = Edges.busy();
        Edges.noMember("isAlive", x, x::isAlive);
        Check.same("isAlive(0), the first member", x.isAlive(0), true);
        Check.same("isAlive(3), the last member", x.isAlive(3), true);
    }

    private static void isAliveAtOnce() {
        for (int failed = 0; failed < 4; failed++) {
            Group x = new RealGroup();
            x.fail(failed);
            for (int member = 0; member < 4; member++) {
                Check.same("isAlive(" + member + ")", x.isAlive(member), member != failed);
            }
            x.flush();
            Check.same("isAlive(" + failed + ")", x.isAlive(failed), false);
        }
    }

    private static void isAliveLast() {
        Group x = new RealGroup();
        failAllBut(x, 2);
        x.flush();
        Check.illegalState("fail(2)", x, () -> x.fail(2));
        Check.same("isAlive(2)", x.isAlive(2), true);
    }

    private static void viewAtFirst() {
        Check.same("view()", new RealGroup().view(), 0);
    }

    private static void viewStays() {
        Group x = new RealGroup();
        Check.illegalState("flush()", x, x::flush);
        Check.same("view()", x.view(), 0);
        x.fail(2);
        Check.same("view()", x.view(), 0);
    }

    private static void viewNext() {
        for (int count = 1; count < 4; count++) {
            Group x = new RealGroup();
            for (int member = 0; member < count; member++) {
                x.fail(member);
            }
            x.flush();
            Check.same("view() when " + count + " leave", x.view(), 1);
        }
    }

    private static void viewThree() {
        Group x = new RealGroup();
        for (int member = 0; member < 3; member++) {
            x.fail(member);
            x.flush();
            Check.same("view()", x.view(), member + 1);
        }
        Check.illegalState("fail(3)", x, () -> x.fail(3));
        Check.illegalState("flush()", x, x::flush);
        Check.same("view()", x.view(), 3);
    }
}
