/** The edges that the document names for promises 26 to 28. */
final class AgreementEdgesTest {
    private AgreementEdgesTest() { }

    static void all() {
        Check.test("promise 26: proposal throws if there is no such message", AgreementEdgesTest::proposalNoMessage);
        Check.test("promise 26: proposal throws if there is no such member", AgreementEdgesTest::proposalNoMember);
        Check.test("promise 26: proposal is NONE if the member proposed nothing", AgreementEdgesTest::proposalNone);
        Check.test("promise 26: the first proposal is 1, for both are 0 at first", AgreementEdgesTest::firstProposal);
        Check.test("promise 26: the sender proposes when it sends", AgreementEdgesTest::senderProposes);
        Check.test("promise 26: a copy that arrives and waits is proposed for", AgreementEdgesTest::waitingProposed);
        Check.test("promise 26: a proposal is 1 more than its own greatest, where that is greater", AgreementEdgesTest::aboveOwn);
        Check.test("promise 26: a proposal is 1 more than the greatest agreed, where that is greater", AgreementEdgesTest::aboveAgreed);
        Check.test("promise 26: a proposal is 1 more than both, where they are equal", AgreementEdgesTest::aboveEqual);
        Check.test("promise 26: what was agreed and is void counts as ever agreed", AgreementEdgesTest::aboveVoid);
        Check.test("promise 26: 48 proposals of one member go up to 48", AgreementEdgesTest::proposals48);
        Check.test("promise 26: proposals of a failed member stay", AgreementEdgesTest::proposalOfFailed);
        Check.test("promise 27: agreed throws if there is no such message", AgreementEdgesTest::agreedNoMessage);
        Check.test("promise 27: agreed is NONE if nothing was agreed", AgreementEdgesTest::agreedNone);
        Check.test("promise 27: agreed is NONE while just one has not proposed", AgreementEdgesTest::agreedOneMissing);
        Check.test("promise 27: agreed is the greatest proposal, whoever made it", AgreementEdgesTest::agreedGreatest);
        Check.test("promise 27: agreed is NONE while a failed one of the view has not proposed", AgreementEdgesTest::agreedFailedMissing);
        Check.test("promise 27: what a member proposed before it failed counts for the view", AgreementEdgesTest::agreedFailedProposed);
        Check.test("promise 27: the members out of the view need not propose", AgreementEdgesTest::agreedOutOfView);
        Check.test("promise 27: the only one of the view agrees when it sends", AgreementEdgesTest::agreedAlone);
        Check.test("promise 27: what was agreed for a dropped message is void", AgreementEdgesTest::agreedVoid);
        Check.test("promise 28: agreedAt throws if nothing is agreed", AgreementEdgesTest::atNothing);
        Check.test("promise 28: agreedAt throws if there are not so many agreed numbers", AgreementEdgesTest::atNoPlace);
        Check.test("promise 28: agreedAt goes by the numbers, not by the sending", AgreementEdgesTest::atByNumbers);
        Check.test("promise 28: agreedAt goes up to place 47", AgreementEdgesTest::at48);
        Check.test("promise 28: places move up when an agreed number is void", AgreementEdgesTest::atVoid);
    }

    private static void proposalNoMessage() {
        Group x = Edges.busy();
        Edges.noMessage("proposal", x, message -> x.proposal(message, 1));
        Check.same("proposal(0, 1), the first one", x.proposal(0, 1), -1);
        Check.same("proposal(2, 1), the last one", x.proposal(2, 1), 1);
    }

    private static void proposalNoMember() {
        Group x = Edges.busy();
        Edges.noMember("proposal", x, member -> x.proposal(0, member));
        Check.same("proposal(0, 0), the first member", x.proposal(0, 0), 1);
        Check.same("proposal(2, 3), the last member", x.proposal(2, 3), 1);
    }

    private static void proposalNone() {
        Group x = Edges.busy();
        Check.same("proposal(0, 3), on its way", x.proposal(0, 3), Causewaymail.NONE);
        Check.same("proposal(0, 2), lost", x.proposal(0, 2), Causewaymail.NONE);
        x.fail(3);
        x.flush();
        Check.same("proposal(0, 2), it arrived in a flush", x.proposal(0, 2), Causewaymail.NONE);
        Check.same("copy(0, 2)", x.copy(0, 2), Causewaymail.DELIVERED);
        x.send(0);
        Check.same("proposal(3, 3), out of the view", x.proposal(3, 3), Causewaymail.NONE);
    }

    private static void firstProposal() {
        Group x = Edges.withSent(2, 1);
        for (int member : new int[] {0, 1, 3}) {
            x.arrive(0, member);
        }
        for (int member = 0; member < 4; member++) {
            Check.same("proposal(0, " + member + ")", x.proposal(0, member), 1);
        }
    }

    private static void senderProposes() {
        for (int member = 0; member < 4; member++) {
            Check.same("proposal(0, " + member + ")", Edges.withSent(member, 1).proposal(0, member), 1);
        }
    }

    private static void waitingProposed() {
        Group x = Edges.withSent(0, 2);
        x.arrive(1, 1);
        Check.same("proposal(1, 1)", x.proposal(1, 1), 1);
        x.arrive(0, 1);
        Check.same("proposal(0, 1)", x.proposal(0, 1), 2);
        Check.same("proposal(1, 1), no new one when delivered", x.proposal(1, 1), 1);
    }

    /** 0 is agreed with 2, for member 3 had proposed 1 for message 1 before. */
    private static Group agreedWithTwo() {
        Group x = Edges.withSent(0, 1);
        x.send(3);
        Edges.arriveAt(x, 0, 1, 2, 3);
        return x;
    }

    private static void aboveOwn() {
        Group x = agreedWithTwo();
        x.send(0);
        x.send(0);
        Check.same("proposal(2, 0), above the agreed 2", x.proposal(2, 0), 3);
        Check.same("proposal(3, 0), above its own 3", x.proposal(3, 0), 4);
    }

    private static void aboveAgreed() {
        Group x = agreedWithTwo();
        Check.same("agreed(0)", x.agreed(0), 2);
        Check.same("proposal(0, 1)", x.proposal(0, 1), 1);
        x.arrive(1, 1);
        Check.same("proposal(1, 1), its own greatest is 1", x.proposal(1, 1), 3);
    }

    private static void aboveEqual() {
        Group x = agreedWithTwo();
        Check.same("proposal(0, 3)", x.proposal(0, 3), 2);
        x.send(3);
        Check.same("proposal(2, 3), its own greatest is 2", x.proposal(2, 3), 3);
    }

    private static void aboveVoid() {
        Group x = Edges.withSent(0, 3);
        Edges.arriveAt(x, 2, 1, 2, 3);
        Check.same("agreed(2)", x.agreed(2), 3);
        x.fail(0);
        Check.same("flush()", x.flush(), 3);
        x.send(1);
        Check.same("proposal(3, 1)", x.proposal(3, 1), 4);
    }

    private static void proposals48() {
        Group x = Edges.withSent(0, 48);
        for (int message = 0; message < 48; message++) {
            Check.same("proposal(" + message + ", 0)", x.proposal(message, 0), message + 1);
        }
    }

    private static void proposalOfFailed() {
        Group x = Edges.withSent(0, 2);
        x.arrive(1, 3);
        x.fail(0);
        x.fail(3);
        Check.same("flush()", x.flush(), 2);
        Check.same("proposal(1, 0)", x.proposal(1, 0), 2);
        Check.same("proposal(1, 3)", x.proposal(1, 3), 1);
        Check.same("proposal(0, 3)", x.proposal(0, 3), Causewaymail.NONE);
    }

    private static void agreedNoMessage() {
        Group x = agreedWithTwo();
        Edges.noMessage("agreed", x, x::agreed);
        Check.same("agreed(0), the first one", x.agreed(0), 2);
        Check.same("agreed(1), the last one", x.agreed(1), -1);
    }

    private static void agreedNone() {
        Group x = Edges.withSent(1, 1);
        Check.same("agreed(0)", x.agreed(0), Causewaymail.NONE);
        Check.same("agreed(0)", Edges.withDropped().agreed(0), Causewaymail.NONE);
    }

    private static void agreedOneMissing() {
        for (int missing = 1; missing < 4; missing++) {
            Group x = Edges.withSent(0, 1);
            for (int member = 1; member < 4; member++) {
                if (member != missing) {
                    x.arrive(0, member);
                }
            }
            Check.same("agreed(0) without " + missing, x.agreed(0), Causewaymail.NONE);
            x.arrive(0, missing);
            Check.same("agreed(0)", x.agreed(0), 1);
        }
        Group x = Edges.withSent(3, 1);
        Edges.arriveAt(x, 0, 1, 2);
        Check.same("agreed(0) without 0", x.agreed(0), Causewaymail.NONE);
        x.arrive(0, 0);
        Check.same("agreed(0)", x.agreed(0), 1);
    }

    private static void agreedGreatest() {
        for (int great = 0; great < 4; great++) {
            // This one sends two messages before, so it proposes 3 and the others 1.
            Group x = Edges.withSent(great, 2);
            x.send((great + 1) % 4);
            for (int member = 0; member < 4; member++) {
                if (member != (great + 1) % 4) {
                    x.arrive(2, member);
                }
            }
            Check.same("proposal(2, " + great + ")", x.proposal(2, great), 3);
            Check.same("agreed(2)", x.agreed(2), 3);
        }
    }

    private static void agreedFailedMissing() {
        Group x = Edges.withSent(0, 1);
        x.fail(3);
        Edges.arriveAt(x, 0, 1, 2);
        Check.same("agreed(0)", x.agreed(0), Causewaymail.NONE);
        Check.outOfBounds("agreedAt(0)", x, () -> x.agreedAt(0));
        x.flush();
        Check.same("agreed(0) by the flush", x.agreed(0), 1);
    }

    private static void agreedFailedProposed() {
        Group x = Edges.withSent(3, 2);
        x.send(0);
        x.arrive(2, 3);
        x.fail(3);
        Edges.arriveAt(x, 2, 1, 2);
        Check.same("agreed(2), the 3 of the failed one", x.agreed(2), 3);
        Check.same("agreedAt(0)", x.agreedAt(0), 2);
    }

    private static void agreedOutOfView() {
        Group x = new RealGroup();
        x.fail(0);
        x.flush();
        x.send(1);
        x.arrive(0, 3);
        Check.same("agreed(0), 2 is missing", x.agreed(0), Causewaymail.NONE);
        x.arrive(0, 2);
        Check.same("agreed(0)", x.agreed(0), 1);
    }

    private static void agreedAlone() {
        Group x = new RealGroup();
        x.fail(0);
        x.fail(1);
        x.fail(2);
        x.flush();
        x.send(3);
        Check.same("agreed(0)", x.agreed(0), 1);
        x.send(3);
        Check.same("agreed(1)", x.agreed(1), 2);
    }

    private static void agreedVoid() {
        Group x = Edges.withSent(0, 2);
        Edges.arriveAt(x, 1, 1, 2, 3);
        Check.same("agreed(1)", x.agreed(1), 2);
        x.fail(0);
        Check.same("flush()", x.flush(), 2);
        Check.same("agreed(1)", x.agreed(1), Causewaymail.NONE);
    }

    private static void atNothing() {
        for (Group x : new Group[] {new RealGroup(), Edges.busy(), Edges.withDropped()}) {
            Edges.noPlace("agreedAt", x, 0, x::agreedAt);
        }
    }

    private static void atNoPlace() {
        Group x = agreedWithTwo();
        Edges.noPlace("agreedAt", x, 1, x::agreedAt);
        Check.same("agreedAt(0)", x.agreedAt(0), 0);
        Edges.arriveAt(x, 1, 0, 1, 2);
        Edges.noPlace("agreedAt", x, 2, x::agreedAt);
        Check.same("agreedAt(1)", x.agreedAt(1), 1);
    }

    private static void atByNumbers() {
        Group x = new RealGroup();
        x.send(1);
        x.send(2);
        x.send(3);
        Edges.arriveAt(x, 2, 0, 1, 2);
        Edges.arriveAt(x, 0, 0, 2, 3);
        Edges.arriveAt(x, 1, 0, 1, 3);
        int[] due = {2, 0, 1};
        for (int place = 0; place < 3; place++) {
            Check.same("agreedAt(" + place + ")", x.agreedAt(place), due[place]);
        }
        Check.same("agreed(2) < agreed(0)", x.agreed(2) < x.agreed(0), true);
        Check.same("agreed(0) < agreed(1)", x.agreed(0) < x.agreed(1), true);
    }

    private static void at48() {
        Group x = Edges.withSent(0, 48);
        for (int message = 47; message >= 0; message--) {
            Edges.arriveAt(x, message, 1, 2, 3);
        }
        for (int place = 0; place < 48; place++) {
            Check.same("agreedAt(" + place + ")", x.agreedAt(place), 47 - place);
        }
        Edges.noPlace("agreedAt", x, 48, x::agreedAt);
    }

    private static void atVoid() {
        // In the order of the agreed numbers: 1 of member 0, 2 of member 1, 3 of member 0.
        Group x = Edges.withSent(0, 2);
        Edges.arriveAt(x, 1, 1, 2, 3);
        x.send(1);
        Edges.arriveAt(x, 2, 0, 2, 3);
        x.send(0);
        Edges.arriveAt(x, 3, 1, 2, 3);
        Check.same("agreedAt(1)", x.agreedAt(1), 2);
        Check.same("agreedAt(2)", x.agreedAt(2), 3);
        x.fail(0);
        Check.same("flush()", x.flush(), 3);
        Check.same("agreedAt(0)", x.agreedAt(0), 2);
        Edges.noPlace("agreedAt", x, 1, x::agreedAt);
    }
}
