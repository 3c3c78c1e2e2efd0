/** The edges that the document names for promise 30, by the four steps of a flush. */
final class FlushEdgesTest {
    private FlushEdgesTest() { }

    static void all() {
        Check.test("promise 30: flush throws if no member of the view has failed, in a new object", FlushEdgesTest::refusedNew);
        Check.test("promise 30: flush throws if those that failed have left the view", FlushEdgesTest::refusedTwice);
        Check.test("promise 30: a flush without messages changes just the view", FlushEdgesTest::withoutMessages);
        Check.test("promise 30: a flush drops nothing where all was delivered", FlushEdgesTest::allDelivered);
        Check.test("promise 30: flush counts just what it drops itself", FlushEdgesTest::countsOwn);
        Check.test("promise 30: a flush can drop all 48", FlushEdgesTest::dropsAll);
        Check.test("promise 30: (1) dropped is what only failed members have", FlushEdgesTest::onlyFailedHave);
        Check.test("promise 30: (1) a copy on its way or lost does not keep a message", FlushEdgesTest::onWayAndLostDoNotKeep);
        Check.test("promise 30: (1) one delivered copy of a member alive keeps a message", FlushEdgesTest::deliveredKeeps);
        Check.test("promise 30: (1) one waiting copy of a member alive keeps a message", FlushEdgesTest::waitingKeeps);
        Check.test("promise 30: (1) a waiting copy of a failed member does not keep a message", FlushEdgesTest::waitingOfFailed);
        Check.test("promise 30: (1) dropped is what a dropped one precedes, though it waits", FlushEdgesTest::precededByDropped);
        Check.test("promise 30: (1) dropped is what a chain of dropped ones precedes", FlushEdgesTest::chainOfDropped);
        Check.test("promise 30: (1) kept is what is concurrent with a dropped one", FlushEdgesTest::concurrentKept);
        Check.test("promise 30: (1) all copies of a dropped one are dropped", FlushEdgesTest::allCopiesDropped);
        Check.test("promise 30: (1) its number is void, greater ones become 1 less, smaller ones stay", FlushEdgesTest::numberVoid);
        Check.test("promise 30: (1) two void numbers make greater ones 2 less", FlushEdgesTest::twoNumbersVoid);
        Check.test("promise 30: (1) a dropped one without a number moves none", FlushEdgesTest::noNumberToVoid);
        Check.test("promise 30: (1) its agreed number is void, the others stay", FlushEdgesTest::agreedVoid);
        Check.test("promise 30: (2) what is on its way or lost arrives in the order of sending", FlushEdgesTest::arriveInOrder);
        Check.test("promise 30: (2) what waited is delivered as soon as it can be", FlushEdgesTest::waitingDelivered);
        Check.test("promise 30: (2) what arrives is not proposed for", FlushEdgesTest::noProposals);
        Check.test("promise 30: (2) a holder that is alive numbers what arrives, in its order", FlushEdgesTest::holderNumbers);
        Check.test("promise 30: (3) the token stays with a holder that is alive", FlushEdgesTest::tokenStays);
        Check.test("promise 30: (3) the token of a failed holder goes to the least member alive", FlushEdgesTest::tokenToLeast);
        Check.test("promise 30: (3) the new holder numbers what has no number, as delivered to it", FlushEdgesTest::newHolderNumbers);
        Check.test("promise 30: (3) all members alive know all numbers", FlushEdgesTest::allKnow);
        Check.test("promise 30: (4) what has no agreed number gets 1 more than the greatest", FlushEdgesTest::agreesOnOpen);
        Check.test("promise 30: (4) the numbers go on from one that is void", FlushEdgesTest::goesOnFromVoid);
        Check.test("promise 30: (4) the order is that of the greatest proposals, of failed members too", FlushEdgesTest::byGreatest);
        Check.test("promise 30: (4) of equal ones the first sent comes first", FlushEdgesTest::equalOnes);
        Check.test("promise 30: (4) what is agreed keeps its number", FlushEdgesTest::agreedStays);
        Check.test("promise 30: (4) a dropped one gets none", FlushEdgesTest::droppedGetsNone);
        Check.test("promise 30: (4) that all left have proposed gives no other number", FlushEdgesTest::allLeftProposed);
    }

    private static void refusedNew() {
        Group x = new RealGroup();
        Check.illegalState("flush()", x, x::flush);
        Group y = Edges.busy();
        Check.illegalState("flush()", y, y::flush);
    }

    private static void refusedTwice() {
        for (int failed = 0; failed < 4; failed++) {
            Group x = new RealGroup();
            x.fail(failed);
            Check.same("flush()", x.flush(), 0);
            Check.illegalState("flush() again", x, x::flush);
        }
    }

    private static void withoutMessages() {
        Group x = new RealGroup();
        x.fail(3);
        String before = Snapshot.of(x);
        Check.same("flush()", x.flush(), 0);
        Check.same("the answers", Snapshot.of(x), before.replace("view 0", "view 1"));
    }

    private static void allDelivered() {
        Group x = Edges.withSent(0, 1);
        Edges.arriveAt(x, 0, 1, 2, 3);
        for (int member = 1; member < 4; member++) {
            x.tell(member);
        }
        x.fail(3);
        String before = Snapshot.of(x);
        Check.same("flush()", x.flush(), 0);
        Check.same("the answers", Snapshot.of(x), before.replace("view 0", "view 1"));
    }

    private static void countsOwn() {
        Group x = Edges.withSent(0, 3);
        x.fail(0);
        Check.same("flush()", x.flush(), 3);
        x.send(1);
        x.send(2);
        x.fail(1);
        Check.same("flush()", x.flush(), 1);
        x.fail(3);
        Check.same("flush()", x.flush(), 0);
    }

    private static void dropsAll() {
        Group x = Edges.withSent(0, 48);
        x.fail(0);
        Check.same("flush()", x.flush(), 48);
        Check.same("numbered()", x.numbered(), 0);
        Edges.noPlace("agreedAt", x, 0, x::agreedAt);
        for (int message = 0; message < 48; message++) {
            Check.same("copy", x.copy(message, 1), Causewaymail.DROPPED);
            Check.same("numberOf", x.numberOf(message), Causewaymail.NONE);
        }
    }

    private static void onlyFailedHave() {
        Group x = Edges.withSent(0, 1);
        x.arrive(0, 1);
        x.fail(0);
        x.fail(1);
        Check.same("flush()", x.flush(), 1);
        Check.same("copy(0, 2)", x.copy(0, 2), Causewaymail.DROPPED);
    }

    private static void onWayAndLostDoNotKeep() {
        Group x = Edges.withSent(0, 1);
        x.lose(0, 2);
        x.fail(0);
        Check.same("flush()", x.flush(), 1);
        Group y = Edges.withSent(0, 1);
        Edges.arriveAt(y, 0, 3);
        y.lose(0, 1);
        y.lose(0, 2);
        y.fail(0);
        y.fail(3);
        Check.same("flush(), all lost", y.flush(), 1);
    }

    private static void deliveredKeeps() {
        for (int keeper = 1; keeper < 4; keeper++) {
            Group x = Edges.withSent(0, 1);
            x.arrive(0, keeper);
            x.fail(0);
            Check.same("flush()", x.flush(), 0);
            for (int member = 1; member < 4; member++) {
                Check.same("copy(0, " + member + ")", x.copy(0, member), Causewaymail.DELIVERED);
            }
        }
        Group x = Edges.withSent(3, 1);
        x.arrive(0, 0);
        x.fail(3);
        Check.same("flush(), with member 0", x.flush(), 0);
    }

    private static void waitingKeeps() {
        // 1 waits at member 3 alone, but 0, for which it waits, was delivered to member 2.
        Group x = Edges.withSent(0, 2);
        x.arrive(1, 3);
        x.arrive(0, 2);
        x.fail(0);
        Check.same("flush()", x.flush(), 0);
        for (int member = 1; member < 4; member++) {
            Check.same("copy(1, " + member + ")", x.copy(1, member), Causewaymail.DELIVERED);
        }
    }

    private static void waitingOfFailed() {
        Group x = Edges.withSent(0, 2);
        x.arrive(0, 1);
        x.arrive(1, 3);
        x.fail(0);
        x.fail(3);
        Check.same("flush()", x.flush(), 1);
        Check.same("copy(0, 2)", x.copy(0, 2), Causewaymail.DELIVERED);
        Check.same("copy(1, 2)", x.copy(1, 2), Causewaymail.DROPPED);
    }

    private static void precededByDropped() {
        Group x = Edges.withSent(0, 2);
        Edges.arriveAt(x, 1, 1, 2, 3);
        x.fail(0);
        Check.same("flush()", x.flush(), 2);
        for (int member = 1; member < 4; member++) {
            Check.same("copy(1, " + member + ")", x.copy(1, member), Causewaymail.DROPPED);
            Check.same("waiting(" + member + ")", x.waiting(member), 0);
        }
        Group y = Edges.withSent(3, 2);
        y.arrive(1, 0);
        y.fail(3);
        Check.same("flush()", y.flush(), 2);
        Check.same("copy(1, 0)", y.copy(1, 0), Causewaymail.DROPPED);
        Check.same("waiting(0)", y.waiting(0), 0);
    }

    private static void chainOfDropped() {
        // 0 of member 0 precedes 1 of member 1, and that precedes 2 of member 2; 1 and 2 wait at member 3.
        Group x = Edges.withSent(0, 1);
        x.arrive(0, 1);
        x.send(1);
        Edges.arriveAt(x, 0, 2);
        Edges.arriveAt(x, 1, 2);
        x.send(2);
        x.arrive(1, 3);
        x.arrive(2, 3);
        x.fail(0);
        x.fail(1);
        x.fail(2);
        Check.same("flush()", x.flush(), 3);
        Check.same("waiting(3)", x.waiting(3), 0);
        Check.same("delivered(3)", x.delivered(3), 0);
    }

    private static void concurrentKept() {
        // 1 of member 1 was sent behind 0 of member 0, but 0 had not been delivered there.
        Group x = Edges.withSent(0, 1);
        x.send(1);
        x.fail(0);
        Check.same("flush()", x.flush(), 1);
        Check.same("copy(0, 1)", x.copy(0, 1), Causewaymail.DROPPED);
        Check.same("copy(1, 2)", x.copy(1, 2), Causewaymail.DELIVERED);
    }

    private static void allCopiesDropped() {
        // Of 1: delivered at the failed 0, waiting at 1, on its way to 2, lost for 3.
        Group x = Edges.withSent(0, 2);
        x.arrive(1, 1);
        x.lose(1, 3);
        x.fail(0);
        x.flush();
        for (int member = 0; member < 4; member++) {
            Check.same("copy(1, " + member + ")", x.copy(1, member), Causewaymail.DROPPED);
        }
        // A member that left the view before is no other case.
        Group y = new RealGroup();
        y.fail(3);
        y.flush();
        y.send(0);
        y.fail(0);
        y.flush();
        Check.same("copy(0, 3)", y.copy(0, 3), Causewaymail.DROPPED);
    }

    private static void numberVoid() {
        // The numbers 0, 1, 2 are those of 0 of member 1, 1 of member 0 and 2 of member 2.
        Group x = new RealGroup();
        x.send(1);
        x.arrive(0, 0);
        x.send(0);
        x.send(2);
        x.arrive(2, 0);
        Check.same("numbered()", x.numbered(), 3);
        x.fail(0);
        Check.same("flush()", x.flush(), 1);
        Check.same("numberOf(0), smaller", x.numberOf(0), 0);
        Check.same("numberOf(1), dropped", x.numberOf(1), Causewaymail.NONE);
        Check.same("numberOf(2), greater", x.numberOf(2), 1);
        Check.same("numbered()", x.numbered(), 2);
        x.send(1);
        Check.same("numberOf(3), the next one", x.numberOf(3), 2);
    }

    private static void twoNumbersVoid() {
        // The numbers 0 to 4; 0 and 2 are of member 0 and dropped.
        Group x = Edges.withSent(0, 1);
        x.send(1);
        x.arrive(1, 0);
        x.send(0);
        x.send(2);
        x.arrive(3, 0);
        x.send(3);
        x.arrive(4, 0);
        x.fail(0);
        Check.same("flush()", x.flush(), 2);
        int[] due = {-1, 0, -1, 1, 2};
        for (int message = 0; message < 5; message++) {
            Check.same("numberOf(" + message + ")", x.numberOf(message), due[message]);
        }
        Check.same("numbered()", x.numbered(), 3);
    }

    private static void noNumberToVoid() {
        Group x = new RealGroup();
        x.send(3);
        x.send(0);
        x.send(1);
        x.arrive(2, 0);
        x.fail(3);
        Check.same("flush()", x.flush(), 1);
        Check.same("numberOf(0)", x.numberOf(0), Causewaymail.NONE);
        Check.same("numberOf(1)", x.numberOf(1), 0);
        Check.same("numberOf(2)", x.numberOf(2), 1);
    }

    private static void agreedVoid() {
        // 1 of member 0 is agreed first, then 2 of member 1; 1 waits everywhere for 0.
        Group x = Edges.withSent(0, 2);
        Edges.arriveAt(x, 1, 1, 2, 3);
        x.send(1);
        Edges.arriveAt(x, 2, 0, 2, 3);
        Check.same("agreed(1)", x.agreed(1), 2);
        Check.same("agreed(2)", x.agreed(2), 3);
        x.fail(0);
        Check.same("flush()", x.flush(), 2);
        Check.same("agreed(1)", x.agreed(1), Causewaymail.NONE);
        Check.same("agreed(2) does not become less", x.agreed(2), 3);
        Check.same("agreedAt(0)", x.agreedAt(0), 2);
        Edges.noPlace("agreedAt", x, 1, x::agreedAt);
    }

    private static void arriveInOrder() {
        // At member 1: 0 of member 2 is lost, 1 of member 3 on its way, 2 of member 0 lost.
        Group x = new RealGroup();
        x.send(2);
        x.send(3);
        x.send(0);
        x.arrive(1, 0);
        x.lose(2, 1);
        x.lose(0, 1);
        x.fail(3);
        Check.same("flush()", x.flush(), 0);
        for (int message = 0; message < 3; message++) {
            Check.same("deliveredAt(1, " + message + ")", x.deliveredAt(1, message), message);
        }
        int[] zero = {2, 1, 0};
        for (int place = 0; place < 3; place++) {
            Check.same("deliveredAt(0, " + place + ")", x.deliveredAt(0, place), zero[place]);
        }
    }

    private static void waitingDelivered() {
        // 2 of member 0 waits at member 1 for 0 of it; 1 is of member 2.
        Group x = Edges.withSent(0, 1);
        x.send(2);
        x.send(0);
        x.arrive(2, 1);
        x.fail(3);
        x.flush();
        int[] due = {0, 2, 1};
        for (int place = 0; place < 3; place++) {
            Check.same("deliveredAt(1, " + place + ")", x.deliveredAt(1, place), due[place]);
        }
        Check.same("waiting(1)", x.waiting(1), 0);
        Check.same("clock(1, 0)", x.clock(1, 0), 2);
    }

    private static void noProposals() {
        Group x = Edges.withSent(0, 2);
        x.arrive(1, 1);
        x.fail(3);
        x.flush();
        Check.same("proposal(0, 1)", x.proposal(0, 1), Causewaymail.NONE);
        Check.same("proposal(1, 1), it arrived before", x.proposal(1, 1), 1);
        Check.same("proposal(0, 2)", x.proposal(0, 2), Causewaymail.NONE);
        Check.same("proposal(1, 3)", x.proposal(1, 3), Causewaymail.NONE);
    }

    private static void holderNumbers() {
        // At the holder 2 waits for 0, so it comes before 1.
        Group x = new RealGroup();
        x.send(1);
        x.send(2);
        x.send(1);
        x.arrive(2, 0);
        x.fail(3);
        x.flush();
        int[] due = {0, 2, 1};
        for (int message = 0; message < 3; message++) {
            Check.same("numberOf(" + message + ")", x.numberOf(message), due[message]);
        }
        Check.same("holder()", x.holder(), 0);
    }

    private static void tokenStays() {
        for (int holder = 0; holder < 4; holder++) {
            Group x = new RealGroup();
            x.passToken(holder);
            x.fail((holder + 1) % 4);
            x.fail((holder + 2) % 4);
            x.flush();
            Check.same("holder()", x.holder(), holder);
        }
    }

    private static void tokenToLeast() {
        for (int failed = 0; failed < 4; failed++) {
            Group x = new RealGroup();
            x.passToken(failed);
            x.fail(failed);
            x.flush();
            Check.same("holder() after " + failed, x.holder(), failed == 0 ? 1 : 0);
        }
        Group x = new RealGroup();
        x.passToken(2);
        x.fail(0);
        x.flush();
        Check.same("holder()", x.holder(), 2);
        x.fail(2);
        x.flush();
        Check.same("holder(), 0 has left the view", x.holder(), 1);
        Group y = new RealGroup();
        y.fail(0);
        y.fail(1);
        y.fail(2);
        y.flush();
        Check.same("holder(), the only one alive", y.holder(), 3);
    }

    private static void newHolderNumbers() {
        // The number 0 is that of 2; delivered to member 1 are 3, 1 and 2, then 0 by the flush.
        Group x = new RealGroup();
        x.send(2);
        x.send(3);
        x.send(0);
        x.send(1);
        x.arrive(1, 1);
        x.arrive(2, 1);
        x.fail(0);
        Check.same("flush()", x.flush(), 0);
        Check.same("holder()", x.holder(), 1);
        int[] due = {3, 2, 0, 1};
        for (int message = 0; message < 4; message++) {
            Check.same("numberOf(" + message + ")", x.numberOf(message), due[message]);
        }
        Check.same("ordered(1)", x.ordered(1), 4);
    }

    private static void allKnow() {
        for (int failed = 0; failed < 4; failed++) {
            Group x = Edges.withSent((failed + 1) % 4, 3);
            x.passToken((failed + 1) % 4);
            x.fail(failed);
            x.flush();
            for (int member = 0; member < 4; member++) {
                Check.same("ordered(" + member + ")", x.ordered(member), member == failed ? 0 : 3);
                if (member != failed) {
                    Check.same("tell(" + member + ")", x.tell(member), 0);
                }
            }
        }
        // Of three known numbers two are void: the next one is new to a member that was told them.
        Group x = new RealGroup();
        x.send(1);
        x.arrive(0, 0);
        x.send(0);
        x.send(0);
        Check.same("tell(2)", x.tell(2), 3);
        x.fail(0);
        Check.same("flush()", x.flush(), 2);
        x.send(1);
        Check.same("tell(2)", x.tell(2), 1);
    }

    private static void agreesOnOpen() {
        // 0 is agreed with 1; the senders proposed 2 for 1, 3 for 2 and 2 for 3.
        Group x = Edges.withSent(0, 1);
        Edges.arriveAt(x, 0, 1, 2, 3);
        x.send(0);
        x.send(0);
        x.send(1);
        x.fail(3);
        x.flush();
        int[] due = {1, 2, 4, 3};
        for (int message = 0; message < 4; message++) {
            Check.same("agreed(" + message + ")", x.agreed(message), due[message]);
        }
        // Member 3 proposed 3 for 2, but nothing was ever agreed.
        Group y = Edges.withSent(3, 2);
        y.send(1);
        y.arrive(2, 3);
        Check.same("proposal(2, 3)", y.proposal(2, 3), 3);
        y.fail(3);
        Check.same("flush()", y.flush(), 2);
        Check.same("agreed(2), nothing was ever agreed", y.agreed(2), 1);
    }

    private static void goesOnFromVoid() {
        Group x = Edges.withSent(0, 3);
        Edges.arriveAt(x, 2, 1, 2, 3);
        Check.same("agreed(2)", x.agreed(2), 3);
        x.send(1);
        x.fail(0);
        Check.same("flush()", x.flush(), 3);
        Check.same("agreed(3)", x.agreed(3), 4);
        Check.same("agreedAt(0)", x.agreedAt(0), 3);
    }

    private static void byGreatest() {
        // The greatest proposals: 3 for 0 and 2 for 1, by the failed member 3; 1 for 2, by members 1 and 3.
        Group x = new RealGroup();
        x.send(0);
        x.send(2);
        x.send(1);
        x.arrive(2, 3);
        x.arrive(1, 3);
        x.arrive(0, 3);
        x.fail(3);
        x.flush();
        Check.same("agreed(2)", x.agreed(2), 1);
        Check.same("agreed(1)", x.agreed(1), 2);
        Check.same("agreed(0)", x.agreed(0), 3);
        for (int place = 0; place < 3; place++) {
            Check.same("agreedAt(" + place + ")", x.agreedAt(place), 2 - place);
        }
    }

    private static void equalOnes() {
        Group x = new RealGroup();
        x.send(3);
        x.send(2);
        x.send(1);
        x.fail(0);
        x.flush();
        for (int message = 0; message < 3; message++) {
            Check.same("agreed(" + message + ")", x.agreed(message), message + 1);
        }
    }

    private static void agreedStays() {
        Group x = Edges.withSent(0, 1);
        x.send(3);
        Edges.arriveAt(x, 0, 1, 2, 3);
        Check.same("agreed(0)", x.agreed(0), 2);
        x.fail(2);
        x.flush();
        Check.same("agreed(0)", x.agreed(0), 2);
        Check.same("agreed(1)", x.agreed(1), 3);
        x.fail(1);
        x.flush();
        Check.same("agreed(1)", x.agreed(1), 3);
    }

    private static void droppedGetsNone() {
        Group x = Edges.withSent(0, 1);
        x.send(1);
        x.fail(0);
        x.flush();
        Check.same("agreed(0)", x.agreed(0), Causewaymail.NONE);
        Check.same("agreed(1)", x.agreed(1), 1);
        x.fail(2);
        x.flush();
        Check.same("agreed(0) after another flush", x.agreed(0), Causewaymail.NONE);
        Edges.noPlace("agreedAt", x, 1, x::agreedAt);
    }

    private static void allLeftProposed() {
        // Members 0, 1 and 2 have proposed 2 for 1, and nothing was ever agreed.
        Group x = new RealGroup();
        for (int member = 0; member < 3; member++) {
            x.send(member);
        }
        x.send(0);
        x.arrive(3, 1);
        x.arrive(3, 2);
        Check.same("proposal(3, 2)", x.proposal(3, 2), 2);
        x.lose(3, 3);
        x.fail(3);
        x.flush();
        Check.same("agreed(3), behind the three with the proposal 1", x.agreed(3), 4);
    }
}
