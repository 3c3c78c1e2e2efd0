/** Promises 1 to 8: the new object and its messages. */
final class MessagesTest {
    private MessagesTest() { }

    static void all() {
        Check.test("promise 1: a new object", MessagesTest::newObject);
        Check.test("promise 1: objects share nothing", MessagesTest::twoObjects);
        Check.test("promise 2: send", MessagesTest::send);
        Check.test("promise 2: send is refused", MessagesTest::sendRefused);
        Check.test("promise 2: 48 messages and no more", MessagesTest::sendLimit);
        Check.test("promise 3: arrive", MessagesTest::arrive);
        Check.test("promise 3: what waits is delivered in the order of arrival", MessagesTest::arriveOrder);
        Check.test("promise 3: arrive is refused", MessagesTest::arriveRefused);
        Check.test("promise 4: lose", MessagesTest::lose);
        Check.test("promise 5: sendAgain", MessagesTest::sendAgain);
        Check.test("promise 6: messages", MessagesTest::messages);
        Check.test("promise 7: sender", MessagesTest::sender);
        Check.test("promise 8: copy", MessagesTest::copy);
        Check.test("promise 8: copies of a failed member", MessagesTest::copyOfFailed);
    }

    private static void newObject() {
        Group x = new RealGroup();
        Check.same("messages()", x.messages(), 0);
        Check.same("holder()", x.holder(), 0);
        Check.same("numbered()", x.numbered(), 0);
        Check.same("view()", x.view(), 0);
        for (int member = 0; member < 4; member++) {
            Check.same("isAlive", x.isAlive(member), true);
            Check.same("delivered", x.delivered(member), 0);
            Check.same("waiting", x.waiting(member), 0);
            Check.same("ordered", x.ordered(member), 0);
            for (int of = 0; of < 4; of++) {
                Check.same("clock", x.clock(member, of), 0);
            }
        }
        Check.outOfBounds("agreedAt(0)", x, () -> x.agreedAt(0));
    }

    private static void twoObjects() {
        Group one = new RealGroup();
        Group two = new RealGroup();
        String before = Snapshot.of(two);
        one.send(0);
        one.arrive(0, 1);
        one.passToken(1);
        one.fail(2);
        one.flush();
        Check.same("the other object", Snapshot.of(two), before);
    }

    private static void send() {
        Group x = new RealGroup();
        Check.same("send(0)", x.send(0), 0);
        Check.same("send(3)", x.send(3), 1);
        Check.same("send(3)", x.send(3), 2);
        Check.same("copy(0, 0)", x.copy(0, 0), Causewaymail.DELIVERED);
        Check.same("copy(0, 1)", x.copy(0, 1), Causewaymail.ON_WAY);
        Check.same("copy(2, 0)", x.copy(2, 0), Causewaymail.ON_WAY);
        Check.same("delivered(3)", x.delivered(3), 2);
        Check.same("proposal(2, 3)", x.proposal(2, 3), 2);
        x.fail(1);
        x.flush();
        Check.same("send(2)", x.send(2), 3);
        Check.same("copy of a member out of the view", x.copy(3, 1), Causewaymail.LOST);
        Check.same("copy of a member in the view", x.copy(3, 0), Causewaymail.ON_WAY);
        x.fail(0);
        x.flush();
        Check.same("send(2)", x.send(2), 4);
        Check.same("copy of 0 out of the view", x.copy(4, 0), Causewaymail.LOST);
    }

    private static void sendRefused() {
        Group x = new RealGroup();
        for (int member : new int[] {-1, 4, Integer.MIN_VALUE, Integer.MAX_VALUE}) {
            Check.outOfBounds("send(" + member + ")", x, () -> x.send(member));
        }
        x.send(1);
        x.fail(0);
        Check.illegalState("send of the failed one", x, () -> x.send(0));
        Check.illegalState("send beside a failed one", x, () -> x.send(1));
        Check.outOfBounds("send(4), the index first", x, () -> x.send(4));
        x.flush();
        Check.illegalState("send of one out of the view", x, () -> x.send(0));
        Check.same("send(1)", x.send(1), 1);
    }

    private static void sendLimit() {
        Group x = new RealGroup();
        for (int message = 0; message < 48; message++) {
            Check.same("send", x.send(message % 4), message);
        }
        Check.illegalState("the 49th send", x, () -> x.send(0));
        Check.outOfBounds("send(-1), the index first", x, () -> x.send(-1));
        x.fail(0);
        Check.same("flush()", x.flush(), 12);
        Check.illegalState("send after drops", x, () -> x.send(1));
        Check.same("messages()", x.messages(), 48);
    }

    private static void arrive() {
        Group x = new RealGroup();
        x.send(0);
        x.send(0);
        Check.same("arrive(1, 1)", x.arrive(1, 1), 0);
        Check.same("copy(1, 1)", x.copy(1, 1), Causewaymail.WAITING);
        Check.same("arrive(0, 1)", x.arrive(0, 1), 2);
        Check.same("copy(0, 1)", x.copy(0, 1), Causewaymail.DELIVERED);
        Check.same("copy(1, 1)", x.copy(1, 1), Causewaymail.DELIVERED);
        Check.same("arrive(0, 2)", x.arrive(0, 2), 1);
        Check.same("arrive(1, 2)", x.arrive(1, 2), 1);
        // 2 of member 1 builds on 0 and 1: member 3 has neither, then one, then both.
        x.send(1);
        Check.same("arrive(2, 3)", x.arrive(2, 3), 0);
        Check.same("arrive(0, 3)", x.arrive(0, 3), 1);
        Check.same("arrive(1, 3)", x.arrive(1, 3), 2);
        // A failed member elsewhere in the view hinders no arrival.
        x.fail(0);
        Check.same("arrive(2, 2)", x.arrive(2, 2), 1);
    }

    private static void arriveOrder() {
        Group x = new RealGroup();
        x.send(0);
        x.arrive(0, 1);
        x.arrive(0, 2);
        x.send(1);
        x.send(2);
        x.send(2);
        // At member 3: 3 (waits for 2), 2, 1 and then 0, which frees all: 2, then 3 that arrived first, then 1.
        x.arrive(3, 3);
        x.arrive(2, 3);
        x.arrive(1, 3);
        Check.same("arrive(0, 3)", x.arrive(0, 3), 4);
        int[] due = {0, 2, 3, 1};
        for (int place = 0; place < 4; place++) {
            Check.same("deliveredAt(3, " + place + ")", x.deliveredAt(3, place), due[place]);
        }
    }

    private static void arriveRefused() {
        Group x = new RealGroup();
        Check.outOfBounds("arrive(0, 0) without messages", x, () -> x.arrive(0, 0));
        x.send(0);
        Check.outOfBounds("arrive(1, 1)", x, () -> x.arrive(1, 1));
        Check.outOfBounds("arrive(-1, 1)", x, () -> x.arrive(-1, 1));
        Check.outOfBounds("arrive(0, 4)", x, () -> x.arrive(0, 4));
        Check.outOfBounds("arrive(0, -1)", x, () -> x.arrive(0, -1));
        Check.illegalState("arrive at the sender", x, () -> x.arrive(0, 0));
        x.lose(0, 1);
        Check.illegalState("arrive of a lost copy", x, () -> x.arrive(0, 1));
        x.arrive(0, 2);
        Check.illegalState("arrive twice", x, () -> x.arrive(0, 2));
        x.send(0);
        x.send(0);
        x.arrive(2, 2);
        Check.illegalState("arrive of a waiting copy", x, () -> x.arrive(2, 2));
        x.fail(3);
        Check.illegalState("arrive at a failed member", x, () -> x.arrive(0, 3));
        x.flush();
        Check.illegalState("arrive out of the view", x, () -> x.arrive(0, 3));
        Check.outOfBounds("arrive(9, 3), the index first", x, () -> x.arrive(9, 3));
    }

    private static void lose() {
        Group x = new RealGroup();
        x.send(0);
        x.lose(0, 1);
        Check.same("copy(0, 1)", x.copy(0, 1), Causewaymail.LOST);
        Check.same("copy(0, 2)", x.copy(0, 2), Causewaymail.ON_WAY);
        Check.illegalState("lose twice", x, () -> x.lose(0, 1));
        Check.illegalState("lose at the sender", x, () -> x.lose(0, 0));
        Check.outOfBounds("lose(1, 0)", x, () -> x.lose(1, 0));
        Check.outOfBounds("lose(-1, 0)", x, () -> x.lose(-1, 0));
        Check.outOfBounds("lose(0, 4)", x, () -> x.lose(0, 4));
        Check.outOfBounds("lose(0, -1)", x, () -> x.lose(0, -1));
        x.send(0);
        x.arrive(1, 2);
        Check.illegalState("lose of a waiting copy", x, () -> x.lose(1, 2));
        x.fail(3);
        x.lose(0, 3);
        Check.same("copy(0, 3) of the failed", x.copy(0, 3), Causewaymail.LOST);
    }

    private static void sendAgain() {
        Group x = new RealGroup();
        x.send(0);
        Check.illegalState("sendAgain on its way", x, () -> x.sendAgain(0, 1));
        Check.illegalState("sendAgain at the sender", x, () -> x.sendAgain(0, 0));
        x.lose(0, 1);
        x.sendAgain(0, 1);
        Check.same("copy(0, 1)", x.copy(0, 1), Causewaymail.ON_WAY);
        Check.illegalState("sendAgain twice", x, () -> x.sendAgain(0, 1));
        Check.same("arrive(0, 1)", x.arrive(0, 1), 1);
        Check.illegalState("sendAgain of a delivered one", x, () -> x.sendAgain(0, 1));
        Check.outOfBounds("sendAgain(1, 0)", x, () -> x.sendAgain(1, 0));
        Check.outOfBounds("sendAgain(-1, 0)", x, () -> x.sendAgain(-1, 0));
        Check.outOfBounds("sendAgain(0, 4)", x, () -> x.sendAgain(0, 4));
        Check.outOfBounds("sendAgain(0, -1)", x, () -> x.sendAgain(0, -1));
        x.fail(3);
        x.flush();
        x.send(1);
        x.sendAgain(1, 3);
        Check.same("copy(1, 3) out of the view", x.copy(1, 3), Causewaymail.ON_WAY);
    }

    private static void messages() {
        Group x = new RealGroup();
        for (int count = 0; count < 5; count++) {
            Check.same("messages()", x.messages(), count);
            x.send(count % 4);
        }
        x.fail(0);
        Check.same("flush()", x.flush(), 2);
        Check.same("messages() counts the dropped", x.messages(), 5);
    }

    private static void sender() {
        Group x = new RealGroup();
        int[] senders = {3, 0, 0, 2, 1};
        for (int member : senders) {
            x.send(member);
        }
        for (int message = 0; message < senders.length; message++) {
            Check.same("sender(" + message + ")", x.sender(message), senders[message]);
        }
        Check.outOfBounds("sender(5)", x, () -> x.sender(5));
        Check.outOfBounds("sender(-1)", x, () -> x.sender(-1));
        x.fail(3);
        x.flush();
        Check.same("sender of a dropped one", x.sender(0), 3);
    }

    private static void copy() {
        Group x = new RealGroup();
        x.send(0);
        x.send(0);
        x.arrive(1, 1);
        x.lose(0, 2);
        Check.same("delivered", x.copy(0, 0), 2);
        Check.same("waiting", x.copy(1, 1), 1);
        Check.same("lost", x.copy(0, 2), 3);
        Check.same("on its way", x.copy(0, 3), 0);
        Check.outOfBounds("copy(2, 0)", x, () -> x.copy(2, 0));
        Check.outOfBounds("copy(-1, 0)", x, () -> x.copy(-1, 0));
        Check.outOfBounds("copy(0, 4)", x, () -> x.copy(0, 4));
        Check.outOfBounds("copy(0, -1)", x, () -> x.copy(0, -1));
        x.fail(0);
        x.flush();
        for (int member = 0; member < 4; member++) {
            Check.same("dropped", x.copy(1, member), 4);
        }
        Check.illegalState("lose of a dropped one", x, () -> x.lose(0, 1));
        Check.illegalState("sendAgain of a dropped one", x, () -> x.sendAgain(0, 2));
        Check.illegalState("arrive of a dropped one", x, () -> x.arrive(0, 3));
    }

    private static void copyOfFailed() {
        Group x = new RealGroup();
        for (int message = 0; message < 4; message++) {
            x.send(0);
        }
        x.arrive(0, 3);
        x.arrive(2, 3);
        x.lose(3, 3);
        x.fail(3);
        Check.same("flush()", x.flush(), 0);
        int[] due = {Causewaymail.DELIVERED, Causewaymail.ON_WAY, Causewaymail.WAITING, Causewaymail.LOST};
        for (int message = 0; message < 4; message++) {
            Check.same("copy(" + message + ", 3)", x.copy(message, 3), due[message]);
            Check.same("copy(" + message + ", 2)", x.copy(message, 2), Causewaymail.DELIVERED);
        }
    }
}
