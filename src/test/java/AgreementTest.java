/** Promises 26 to 28: the order by agreement. */
final class AgreementTest {
    private AgreementTest() { }

    static void all() {
        Check.test("promise 26: proposal", AgreementTest::proposal);
        Check.test("promise 26: proposals are above what was agreed", AgreementTest::aboveAgreed);
        Check.test("promise 27: agreed", AgreementTest::agreed);
        Check.test("promise 27: agreed in smaller views", AgreementTest::agreedInSmallerViews);
        Check.test("promise 28: agreedAt", AgreementTest::agreedAt);
    }

    private static void proposal() {
        Group x = new RealGroup();
        x.send(0);
        x.send(0);
        Check.same("proposal(0, 0)", x.proposal(0, 0), 1);
        Check.same("proposal(1, 0)", x.proposal(1, 0), 2);
        Check.same("proposal(1, 1)", x.proposal(1, 1), Causewaymail.NONE);
        x.arrive(1, 1);
        Check.same("proposal(1, 1), it waits", x.proposal(1, 1), 1);
        x.arrive(0, 1);
        Check.same("proposal(0, 1)", x.proposal(0, 1), 2);
        Check.same("proposal(1, 1) stays", x.proposal(1, 1), 1);
        Check.outOfBounds("proposal(2, 0)", x, () -> x.proposal(2, 0));
        Check.outOfBounds("proposal(-1, 0)", x, () -> x.proposal(-1, 0));
        Check.outOfBounds("proposal(0, 4)", x, () -> x.proposal(0, 4));
        Check.outOfBounds("proposal(0, -1)", x, () -> x.proposal(0, -1));
        x.fail(0);
        x.flush();
        Check.same("no proposals in a flush", x.proposal(0, 2), Causewaymail.NONE);
        Check.same("proposals of the failed stay", x.proposal(1, 0), 2);
        x.send(1);
        Check.same("nothing of the failed", x.proposal(2, 0), Causewaymail.NONE);
    }

    private static void aboveAgreed() {
        Group x = new RealGroup();
        x.send(0);
        x.send(0);
        x.send(0);
        // The third is agreed first, with 3; member 3 proposed only once before.
        x.arrive(2, 1);
        x.arrive(2, 2);
        x.arrive(2, 3);
        Check.same("agreed(2)", x.agreed(2), 3);
        x.arrive(0, 3);
        Check.same("proposal(0, 3)", x.proposal(0, 3), 4);
        x.arrive(1, 3);
        Check.same("proposal(1, 3)", x.proposal(1, 3), 5);
        x.send(0);
        Check.same("proposal(3, 0)", x.proposal(3, 0), 4);
        // What was agreed for a dropped message still counts.
        Group y = new RealGroup();
        y.send(0);
        y.send(0);
        y.send(0);
        y.arrive(2, 1);
        y.arrive(2, 2);
        y.arrive(2, 3);
        y.fail(0);
        Check.same("flush()", y.flush(), 3);
        Check.same("agreed(2) is void", y.agreed(2), Causewaymail.NONE);
        y.send(1);
        Check.same("proposal(3, 1)", y.proposal(3, 1), 4);
    }

    private static void agreed() {
        Group x = new RealGroup();
        x.send(0);
        x.send(1);
        x.arrive(0, 1);
        x.arrive(0, 2);
        Check.same("agreed(0), 3 is missing", x.agreed(0), Causewaymail.NONE);
        x.arrive(0, 3);
        Check.same("agreed(0)", x.agreed(0), 2);
        x.arrive(1, 2);
        x.arrive(1, 3);
        Check.same("agreed(1), 0 is missing", x.agreed(1), Causewaymail.NONE);
        x.arrive(1, 0);
        Check.same("agreed(1)", x.agreed(1), 3);
        Check.outOfBounds("agreed(2)", x, () -> x.agreed(2));
        Check.outOfBounds("agreed(-1)", x, () -> x.agreed(-1));
        x.send(2);
        x.fail(3);
        x.arrive(2, 0);
        x.arrive(2, 1);
        Check.same("agreed(2), a failed one of the view is missing", x.agreed(2), Causewaymail.NONE);
        x.flush();
        Check.same("agreed(2) by the flush", x.agreed(2), 4);
    }

    private static void agreedInSmallerViews() {
        Group x = new RealGroup();
        x.fail(3);
        x.flush();
        x.send(0);
        x.arrive(0, 1);
        Check.same("agreed(0)", x.agreed(0), Causewaymail.NONE);
        x.arrive(0, 2);
        Check.same("agreed(0) of three", x.agreed(0), 1);
        x.fail(0);
        x.fail(1);
        x.flush();
        x.send(2);
        Check.same("agreed(1) of one alone", x.agreed(1), 2);
    }

    private static void agreedAt() {
        Group x = new RealGroup();
        Check.outOfBounds("agreedAt(0) of nothing", x, () -> x.agreedAt(0));
        x.send(0);
        x.send(1);
        x.send(2);
        for (int member : new int[] {0, 1, 3}) {
            x.arrive(2, member);
        }
        for (int member : new int[] {1, 2, 3}) {
            x.arrive(0, member);
        }
        Check.same("agreedAt(0)", x.agreedAt(0), 2);
        Check.same("agreedAt(1)", x.agreedAt(1), 0);
        Check.outOfBounds("agreedAt(2)", x, () -> x.agreedAt(2));
        Check.outOfBounds("agreedAt(-1)", x, () -> x.agreedAt(-1));
        Check.outOfBounds("agreedAt(MAX)", x, () -> x.agreedAt(Integer.MAX_VALUE));
        // Message 3 is agreed and dropped: only those behind it move up.
        Group y = new RealGroup();
        y.send(1);
        y.send(0);
        y.send(0);
        y.arrive(2, 1);
        y.arrive(2, 2);
        y.arrive(2, 3);
        y.arrive(0, 0);
        y.arrive(0, 2);
        y.arrive(0, 3);
        Check.same("agreedAt(0)", y.agreedAt(0), 2);
        Check.same("agreedAt(1)", y.agreedAt(1), 0);
        y.fail(0);
        Check.same("flush()", y.flush(), 2);
        Check.same("agreedAt(0)", y.agreedAt(0), 0);
        Check.outOfBounds("agreedAt(1)", y, () -> y.agreedAt(1));
    }
}
