/** The edges that the document names for promises 1 to 8. */
final class MessageEdgesTest {
    private MessageEdgesTest() { }

    static void all() {
        Check.test("promise 1: the members are 0 to 3, all alive at first", MessageEdgesTest::fourMembers);
        Check.test("promise 1: a new object has no message, so 0 is none", MessageEdgesTest::noMessageAtFirst);
        Check.test("promise 1: nothing is delivered, waits, is numbered or agreed at first", MessageEdgesTest::nothingAtFirst);
        Check.test("promise 2: messages are numbered from 0 in the order in which they are sent", MessageEdgesTest::numberedFromZero);
        Check.test("promise 2: the copy of the sender is delivered at once", MessageEdgesTest::ownCopyAtOnce);
        Check.test("promise 2: copies for members not in the view are lost at once", MessageEdgesTest::lostAtOnce);
        Check.test("promise 2: all other copies are on their way first", MessageEdgesTest::othersOnWay);
        Check.test("promise 2: send throws if there is no such member", MessageEdgesTest::sendNoMember);
        Check.test("promise 2: send throws if the member has failed", MessageEdgesTest::sendFailed);
        Check.test("promise 2: send throws if any other member of the view has failed", MessageEdgesTest::sendOtherFailed);
        Check.test("promise 2: send goes on once the failed have left the view", MessageEdgesTest::sendAfterFlush);
        Check.test("promise 2: the 48th message is sent, the 49th is not", MessageEdgesTest::send48);
        Check.test("promise 2: dropped messages count for the 48", MessageEdgesTest::droppedCountFor48);
        Check.test("promise 2: the only one alive sends", MessageEdgesTest::sendAlone);
        Check.test("promise 3: arrive throws if there is no such message", MessageEdgesTest::arriveNoMessage);
        Check.test("promise 3: arrive throws if there is no such member", MessageEdgesTest::arriveNoMember);
        Check.test("promise 3: arrive throws if the member has failed", MessageEdgesTest::arriveFailed);
        Check.test("promise 3: arrive throws if the copy waits", MessageEdgesTest::arriveWaiting);
        Check.test("promise 3: arrive throws if the copy was delivered", MessageEdgesTest::arriveDelivered);
        Check.test("promise 3: arrive throws if the copy is lost", MessageEdgesTest::arriveLost);
        Check.test("promise 3: arrive throws if the message was dropped", MessageEdgesTest::arriveDropped);
        Check.test("promise 3: arrive returns 0 when the copy waits", MessageEdgesTest::arriveReturnsNone);
        Check.test("promise 3: arrive returns 48 when 47 waited for the first", MessageEdgesTest::arriveReturnsAll);
        Check.test("promise 3: delivered is just the next one of the sender", MessageEdgesTest::justTheNext);
        Check.test("promise 3: delivered is what has as much of the others as the clock, or less", MessageEdgesTest::noMoreOfOthers);
        Check.test("promise 3: of the waiting ones that can be delivered, the first arrived is", MessageEdgesTest::firstArrived);
        Check.test("promise 3: after each delivery the first arrived is looked for anew", MessageEdgesTest::lookedForAnew);
        Check.test("promise 4: lose throws if there is no such message", MessageEdgesTest::loseNoMessage);
        Check.test("promise 4: lose throws if there is no such member", MessageEdgesTest::loseNoMember);
        Check.test("promise 4: lose throws if the copy waits", MessageEdgesTest::loseWaiting);
        Check.test("promise 4: lose throws if the copy was delivered", MessageEdgesTest::loseDelivered);
        Check.test("promise 4: lose throws if the copy is lost", MessageEdgesTest::loseLost);
        Check.test("promise 4: lose throws if the message was dropped", MessageEdgesTest::loseDropped);
        Check.test("promise 4: a copy on its way to a failed member is lost like any other", MessageEdgesTest::loseOfFailed);
        Check.test("promise 5: sendAgain throws if there is no such message", MessageEdgesTest::againNoMessage);
        Check.test("promise 5: sendAgain throws if there is no such member", MessageEdgesTest::againNoMember);
        Check.test("promise 5: sendAgain throws if the copy is on its way", MessageEdgesTest::againOnWay);
        Check.test("promise 5: sendAgain throws if the copy waits", MessageEdgesTest::againWaiting);
        Check.test("promise 5: sendAgain throws if the copy was delivered", MessageEdgesTest::againDelivered);
        Check.test("promise 5: sendAgain throws if the message was dropped", MessageEdgesTest::againDropped);
        Check.test("promise 5: a copy that was lost at once is sent again", MessageEdgesTest::againOutOfView);
        Check.test("promise 5: a copy is lost and sent again as often as one likes", MessageEdgesTest::againAndAgain);
        Check.test("promise 6: messages is 0 at first and 48 at most", MessageEdgesTest::messagesFrom0To48);
        Check.test("promise 6: dropped messages were sent", MessageEdgesTest::messagesCountsDropped);
        Check.test("promise 7: sender throws if there is no such message", MessageEdgesTest::senderNoMessage);
        Check.test("promise 7: the sender of a dropped message, failed, is still told", MessageEdgesTest::senderOfDropped);
        Check.test("promise 8: copy throws if there is no such message", MessageEdgesTest::copyNoMessage);
        Check.test("promise 8: copy throws if there is no such member", MessageEdgesTest::copyNoMember);
        Check.test("promise 8: copy tells each of the five", MessageEdgesTest::copyTellsFive);
        Check.test("promise 8: copy of a failed member is not told as it was", MessageEdgesTest::copyOfFailedChanges);
    }

    private static void fourMembers() {
        Group x = new RealGroup();
        for (int member = 0; member < 4; member++) {
            Check.same("isAlive(" + member + ")", x.isAlive(member), true);
        }
        Edges.noMember("isAlive", x, x::isAlive);
    }

    private static void noMessageAtFirst() {
        Group x = new RealGroup();
        Check.outOfBounds("arrive(0, 0)", x, () -> x.arrive(0, 0));
        Check.outOfBounds("lose(0, 0)", x, () -> x.lose(0, 0));
        Check.outOfBounds("sendAgain(0, 0)", x, () -> x.sendAgain(0, 0));
        Check.outOfBounds("sender(0)", x, () -> x.sender(0));
        Check.outOfBounds("copy(0, 0)", x, () -> x.copy(0, 0));
        Check.outOfBounds("stamp(0, 0)", x, () -> x.stamp(0, 0));
        Check.outOfBounds("precedes(0, 0)", x, () -> x.precedes(0, 0));
        Check.outOfBounds("precedesByHistory(0, 0)", x, () -> x.precedesByHistory(0, 0));
        Check.outOfBounds("areConcurrent(0, 0)", x, () -> x.areConcurrent(0, 0));
        Check.outOfBounds("needs(0, 0)", x, () -> x.needs(0, 0));
        Check.outOfBounds("firstNeeded(0, 0)", x, () -> x.firstNeeded(0, 0));
        Check.outOfBounds("numberOf(0)", x, () -> x.numberOf(0));
        Check.outOfBounds("proposal(0, 0)", x, () -> x.proposal(0, 0));
        Check.outOfBounds("agreed(0)", x, () -> x.agreed(0));
    }

    private static void nothingAtFirst() {
        Group x = new RealGroup();
        for (int member = 0; member < 4; member++) {
            int one = member;
            Check.same("delivered", x.delivered(member), 0);
            Check.outOfBounds("deliveredAt", x, () -> x.deliveredAt(one, 0));
            Check.same("waiting", x.waiting(member), 0);
            Check.outOfBounds("waitingAt", x, () -> x.waitingAt(one, 0));
            Check.same("ordered", x.ordered(member), 0);
        }
        Check.same("numbered()", x.numbered(), 0);
        Check.outOfBounds("agreedAt(0)", x, () -> x.agreedAt(0));
    }

    private static void numberedFromZero() {
        Group x = new RealGroup();
        int[] senders = {3, 3, 0, 2, 1, 0};
        for (int message = 0; message < senders.length; message++) {
            Check.same("send", x.send(senders[message]), message);
            Check.same("sender", x.sender(message), senders[message]);
        }
    }

    private static void ownCopyAtOnce() {
        for (int member = 0; member < 4; member++) {
            Group x = Edges.withSent(member, 1);
            Check.same("copy", x.copy(0, member), Causewaymail.DELIVERED);
            Check.same("delivered", x.delivered(member), 1);
            Check.same("deliveredAt", x.deliveredAt(member, 0), 0);
            Check.same("clock", x.clock(member, member), 1);
        }
    }

    private static void lostAtOnce() {
        for (int failed = 0; failed < 4; failed++) {
            Group x = new RealGroup();
            x.fail(failed);
            x.flush();
            x.send((failed + 1) % 4);
            Check.same("copy for " + failed, x.copy(0, failed), Causewaymail.LOST);
        }
    }

    private static void othersOnWay() {
        for (int sender = 0; sender < 4; sender++) {
            Group x = Edges.withSent(sender, 1);
            for (int member = 0; member < 4; member++) {
                int due = member == sender ? Causewaymail.DELIVERED : Causewaymail.ON_WAY;
                Check.same("copy(0, " + member + ") of " + sender, x.copy(0, member), due);
            }
        }
    }

    private static void sendNoMember() {
        Group x = Edges.busy();
        Edges.noMember("send", x, x::send);
    }

    private static void sendFailed() {
        for (int failed = 0; failed < 4; failed++) {
            Group x = new RealGroup();
            int member = failed;
            x.fail(member);
            Check.illegalState("send(" + member + ") in the view", x, () -> x.send(member));
            x.flush();
            // Now the view is whole: only that the member itself has failed is left.
            Check.illegalState("send(" + member + ") out of the view", x, () -> x.send(member));
        }
    }

    private static void sendOtherFailed() {
        for (int pair = 0; pair < 16; pair++) {
            int failed = pair / 4;
            int member = pair % 4;
            Group x = new RealGroup();
            x.fail(failed);
            Check.illegalState("send(" + member + ") beside " + failed, x, () -> x.send(member));
        }
    }

    private static void sendAfterFlush() {
        Group x = new RealGroup();
        x.fail(1);
        x.flush();
        Check.same("send(0)", x.send(0), 0);
        Check.same("send(3)", x.send(3), 1);
    }

    private static void send48() {
        Group x = Edges.withSent(1, 47);
        Check.same("send(2), the 48th", x.send(2), 47);
        for (int one = 0; one < 4; one++) {
            int member = one;
            Check.illegalState("send(" + member + "), the 49th", x, () -> x.send(member));
        }
    }

    private static void droppedCountFor48() {
        Group x = Edges.withSent(0, 48);
        x.fail(0);
        Check.same("flush()", x.flush(), 48);
        Check.illegalState("send(1)", x, () -> x.send(1));
        Group y = Edges.withSent(0, 47);
        y.fail(0);
        Check.same("flush()", y.flush(), 47);
        Check.same("send(1), the 48th", y.send(1), 47);
        Check.illegalState("send(1), the 49th", y, () -> y.send(1));
    }

    private static void sendAlone() {
        Group x = new RealGroup();
        x.fail(0);
        x.fail(1);
        x.fail(3);
        x.flush();
        Check.same("send(2)", x.send(2), 0);
        int[] due = {Causewaymail.LOST, Causewaymail.LOST, Causewaymail.DELIVERED, Causewaymail.LOST};
        for (int member = 0; member < 4; member++) {
            Check.same("copy(0, " + member + ")", x.copy(0, member), due[member]);
        }
    }

    private static void arriveNoMessage() {
        Group x = Edges.busy();
        Edges.noMessage("arrive", x, message -> x.arrive(message, 1));
        Check.same("arrive(2, 0), the last one there is", x.arrive(2, 0), 1);
        Check.same("arrive(0, 1), the first one", x.arrive(0, 1), 2);
    }

    private static void arriveNoMember() {
        Group x = Edges.busy();
        Edges.noMember("arrive", x, member -> x.arrive(0, member));
        Check.same("arrive(0, 3), the last member", x.arrive(0, 3), 1);
        Check.same("arrive(2, 0), the first member", x.arrive(2, 0), 1);
    }

    private static void arriveFailed() {
        for (int failed = 0; failed < 4; failed++) {
            int member = failed;
            Group x = Edges.withSent((member + 1) % 4, 1);
            x.fail(member);
            Check.same("copy", x.copy(0, member), Causewaymail.ON_WAY);
            Check.illegalState("arrive in the view", x, () -> x.arrive(0, member));
            x.flush();
            Check.same("copy", x.copy(0, member), Causewaymail.ON_WAY);
            Check.illegalState("arrive out of the view", x, () -> x.arrive(0, member));
        }
    }

    private static void arriveWaiting() {
        Group x = Edges.busy();
        Check.same("copy(1, 1)", x.copy(1, 1), Causewaymail.WAITING);
        Check.illegalState("arrive(1, 1)", x, () -> x.arrive(1, 1));
    }

    private static void arriveDelivered() {
        Group x = Edges.busy();
        Check.illegalState("arrive(0, 0) at the sender", x, () -> x.arrive(0, 0));
        Check.illegalState("arrive(2, 3) that arrived", x, () -> x.arrive(2, 3));
        x.arrive(0, 1);
        Check.illegalState("arrive(1, 1) that waited", x, () -> x.arrive(1, 1));
    }

    private static void arriveLost() {
        Group x = Edges.busy();
        Check.illegalState("arrive(0, 2)", x, () -> x.arrive(0, 2));
        x.sendAgain(0, 2);
        Check.same("arrive(0, 2), sent again", x.arrive(0, 2), 1);
    }

    private static void arriveDropped() {
        Group x = Edges.withDropped();
        for (int one = 1; one < 4; one++) {
            int member = one;
            Check.illegalState("arrive(0, " + member + ")", x, () -> x.arrive(0, member));
        }
    }

    private static void arriveReturnsNone() {
        Group x = Edges.withSent(0, 2);
        Check.same("arrive(1, 3)", x.arrive(1, 3), 0);
        Check.same("copy(1, 3)", x.copy(1, 3), Causewaymail.WAITING);
        Check.same("delivered(3)", x.delivered(3), 0);
    }

    private static void arriveReturnsAll() {
        Group x = Edges.withSent(0, 48);
        for (int message = 47; message > 0; message--) {
            Check.same("arrive(" + message + ", 1)", x.arrive(message, 1), 0);
        }
        Check.same("arrive(0, 1)", x.arrive(0, 1), 48);
        for (int place = 0; place < 48; place++) {
            Check.same("deliveredAt(1, " + place + ")", x.deliveredAt(1, place), place);
        }
    }

    private static void justTheNext() {
        Group x = Edges.withSent(0, 3);
        Check.same("arrive(2, 1), 3 where 1 is next", x.arrive(2, 1), 0);
        Check.same("arrive(1, 1), 2 where 1 is next", x.arrive(1, 1), 0);
        Check.same("arrive(0, 1), 1 where 1 is next", x.arrive(0, 1), 3);
    }

    private static void noMoreOfOthers() {
        Group x = Edges.withSent(0, 1);
        x.arrive(0, 1);
        x.send(1);
        Check.same("arrive(1, 2), it has 1 of member 0, the clock 0", x.arrive(1, 2), 0);
        x.arrive(0, 3);
        Check.same("arrive(1, 3), the clock has as much", x.arrive(1, 3), 1);
        Group y = Edges.withSent(0, 1);
        y.send(1);
        y.arrive(0, 2);
        Check.same("arrive(1, 2), the clock has more", y.arrive(1, 2), 1);
    }

    private static void firstArrived() {
        Group x = Edges.withSent(0, 1);
        Edges.arriveAt(x, 0, 1, 2);
        x.send(1);
        x.send(2);
        x.arrive(2, 3);
        x.arrive(1, 3);
        Check.same("arrive(0, 3)", x.arrive(0, 3), 3);
        int[] due = {0, 2, 1};
        for (int place = 0; place < 3; place++) {
            Check.same("deliveredAt(3, " + place + ")", x.deliveredAt(3, place), due[place]);
        }
    }

    private static void lookedForAnew() {
        // 1 and 3 of member 0, 2 of member 1; 2 and 3 build on 0, and 3 on 1 too.
        Group x = Edges.withSent(0, 2);
        x.arrive(0, 1);
        x.send(1);
        x.send(0);
        x.arrive(3, 3);
        x.arrive(1, 3);
        x.arrive(2, 3);
        Check.same("arrive(0, 3)", x.arrive(0, 3), 4);
        // Behind 1 comes 3, which arrived before 2.
        int[] due = {0, 1, 3, 2};
        for (int place = 0; place < 4; place++) {
            Check.same("deliveredAt(3, " + place + ")", x.deliveredAt(3, place), due[place]);
        }
    }

    private static void loseNoMessage() {
        Group x = Edges.busy();
        Edges.noMessage("lose", x, message -> x.lose(message, 2));
        x.lose(2, 2);
        Check.same("copy(2, 2), the last one there is", x.copy(2, 2), Causewaymail.LOST);
    }

    private static void loseNoMember() {
        Group x = Edges.busy();
        Edges.noMember("lose", x, member -> x.lose(0, member));
        x.lose(0, 3);
        Check.same("copy(0, 3)", x.copy(0, 3), Causewaymail.LOST);
        x.lose(2, 0);
        Check.same("copy(2, 0)", x.copy(2, 0), Causewaymail.LOST);
    }

    private static void loseWaiting() {
        Group x = Edges.busy();
        Check.illegalState("lose(1, 1)", x, () -> x.lose(1, 1));
    }

    private static void loseDelivered() {
        Group x = Edges.busy();
        Check.illegalState("lose(0, 0) at the sender", x, () -> x.lose(0, 0));
        Check.illegalState("lose(2, 3) that arrived", x, () -> x.lose(2, 3));
    }

    private static void loseLost() {
        Group x = Edges.busy();
        Check.illegalState("lose(0, 2)", x, () -> x.lose(0, 2));
    }

    private static void loseDropped() {
        Group x = Edges.withDropped();
        for (int one = 0; one < 4; one++) {
            int member = one;
            Check.illegalState("lose(0, " + member + ")", x, () -> x.lose(0, member));
        }
    }

    private static void loseOfFailed() {
        Group x = Edges.withSent(0, 1);
        x.fail(3);
        x.lose(0, 3);
        Check.same("copy(0, 3)", x.copy(0, 3), Causewaymail.LOST);
        x.sendAgain(0, 3);
        x.flush();
        x.lose(0, 3);
        Check.same("copy(0, 3) out of the view", x.copy(0, 3), Causewaymail.LOST);
    }

    private static void againNoMessage() {
        Group x = Edges.busy();
        Edges.noMessage("sendAgain", x, message -> x.sendAgain(message, 2));
        x.lose(2, 2);
        x.sendAgain(2, 2);
        Check.same("copy(2, 2), the last one there is", x.copy(2, 2), Causewaymail.ON_WAY);
    }

    private static void againNoMember() {
        Group x = Edges.busy();
        Edges.noMember("sendAgain", x, member -> x.sendAgain(0, member));
        x.lose(0, 3);
        x.sendAgain(0, 3);
        Check.same("copy(0, 3)", x.copy(0, 3), Causewaymail.ON_WAY);
        x.lose(2, 0);
        x.sendAgain(2, 0);
        Check.same("copy(2, 0)", x.copy(2, 0), Causewaymail.ON_WAY);
    }

    private static void againOnWay() {
        Group x = Edges.busy();
        Check.illegalState("sendAgain(0, 3)", x, () -> x.sendAgain(0, 3));
        x.sendAgain(0, 2);
        Check.illegalState("sendAgain(0, 2) twice", x, () -> x.sendAgain(0, 2));
    }

    private static void againWaiting() {
        Group x = Edges.busy();
        Check.illegalState("sendAgain(1, 1)", x, () -> x.sendAgain(1, 1));
    }

    private static void againDelivered() {
        Group x = Edges.busy();
        Check.illegalState("sendAgain(0, 0) at the sender", x, () -> x.sendAgain(0, 0));
        Check.illegalState("sendAgain(2, 3) that arrived", x, () -> x.sendAgain(2, 3));
    }

    private static void againDropped() {
        Group x = Edges.withSent(0, 1);
        x.lose(0, 2);
        x.fail(0);
        x.flush();
        for (int one = 0; one < 4; one++) {
            int member = one;
            Check.illegalState("sendAgain(0, " + member + ")", x, () -> x.sendAgain(0, member));
        }
    }

    private static void againOutOfView() {
        Group x = new RealGroup();
        x.fail(0);
        x.flush();
        x.send(1);
        x.sendAgain(0, 0);
        Check.same("copy(0, 0)", x.copy(0, 0), Causewaymail.ON_WAY);
        Check.illegalState("arrive(0, 0)", x, () -> x.arrive(0, 0));
    }

    private static void againAndAgain() {
        Group x = Edges.withSent(2, 1);
        for (int time = 0; time < 20; time++) {
            x.lose(0, 0);
            Check.same("copy(0, 0)", x.copy(0, 0), Causewaymail.LOST);
            x.sendAgain(0, 0);
            Check.same("copy(0, 0)", x.copy(0, 0), Causewaymail.ON_WAY);
        }
        Check.same("proposal(0, 0), it never arrived", x.proposal(0, 0), Causewaymail.NONE);
        Check.same("arrive(0, 0)", x.arrive(0, 0), 1);
    }

    private static void messagesFrom0To48() {
        Group x = new RealGroup();
        for (int count = 0; count < 48; count++) {
            Check.same("messages()", x.messages(), count);
            x.send(3);
        }
        Check.same("messages()", x.messages(), 48);
        Check.illegalState("send(3)", x, () -> x.send(3));
        Check.same("messages()", x.messages(), 48);
    }

    private static void messagesCountsDropped() {
        Group x = Edges.withDropped();
        Check.same("messages()", x.messages(), 1);
        Check.same("send(1)", x.send(1), 1);
        Check.same("messages()", x.messages(), 2);
    }

    private static void senderNoMessage() {
        Group x = Edges.busy();
        Edges.noMessage("sender", x, x::sender);
        Check.same("sender(0), the first one", x.sender(0), 0);
        Check.same("sender(2), the last one", x.sender(2), 1);
    }

    private static void senderOfDropped() {
        Check.same("sender(0)", Edges.withDropped().sender(0), 0);
    }

    private static void copyNoMessage() {
        Group x = Edges.busy();
        Edges.noMessage("copy", x, message -> x.copy(message, 0));
        Check.same("copy(0, 0), the first one", x.copy(0, 0), Causewaymail.DELIVERED);
        Check.same("copy(2, 0), the last one", x.copy(2, 0), Causewaymail.ON_WAY);
    }

    private static void copyNoMember() {
        Group x = Edges.busy();
        Edges.noMember("copy", x, member -> x.copy(0, member));
        Check.same("copy(0, 3), the last member", x.copy(0, 3), Causewaymail.ON_WAY);
    }

    private static void copyTellsFive() {
        Group x = Edges.busy();
        Check.same("copy(0, 1)", x.copy(0, 1), Causewaymail.ON_WAY);
        Check.same("copy(1, 1)", x.copy(1, 1), Causewaymail.WAITING);
        Check.same("copy(2, 1)", x.copy(2, 1), Causewaymail.DELIVERED);
        Check.same("copy(0, 2)", x.copy(0, 2), Causewaymail.LOST);
        Check.same("copy(0, 2)", Edges.withDropped().copy(0, 2), Causewaymail.DROPPED);
    }

    private static void copyOfFailedChanges() {
        // At member 3: 0 delivered, 2 waiting, 3 on its way, 4 lost; none of them is with 1 or 2.
        Group x = Edges.withSent(0, 5);
        x.arrive(0, 3);
        x.arrive(2, 3);
        x.lose(4, 3);
        x.fail(0);
        x.fail(3);
        x.lose(3, 3);
        Check.same("copy(3, 3), lost behind the failure", x.copy(3, 3), Causewaymail.LOST);
        Check.same("flush()", x.flush(), 5);
        for (int message = 0; message < 5; message++) {
            Check.same("copy(" + message + ", 3)", x.copy(message, 3), Causewaymail.DROPPED);
            Check.same("copy(" + message + ", 0)", x.copy(message, 0), Causewaymail.DROPPED);
        }
    }
}
