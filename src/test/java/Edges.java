/** What the tests of the edges share: numbers that are no member, no message or no place. */
final class Edges {
    interface WithNumber { void call(int number); }

    private static final int[] NO_MEMBERS = {Integer.MIN_VALUE, -1, 4, Integer.MAX_VALUE};

    private Edges() { }

    static void noMember(String what, Group x, WithNumber call) {
        for (int member : NO_MEMBERS) {
            Check.outOfBounds(what + " for member " + member, x, () -> call.call(member));
        }
    }

    /** The least number that is no message is the count of those sent. */
    static void noMessage(String what, Group x, WithNumber call) {
        for (int message : new int[] {Integer.MIN_VALUE, -1, x.messages(), 48, Integer.MAX_VALUE}) {
            Check.outOfBounds(what + " for message " + message, x, () -> call.call(message));
        }
    }

    static void noPlace(String what, Group x, int count, WithNumber call) {
        for (int place : new int[] {Integer.MIN_VALUE, -1, count, count + 1, Integer.MAX_VALUE}) {
            Check.outOfBounds(what + " at place " + place, x, () -> call.call(place));
        }
    }

    /** A new group in which one member sends so many messages. */
    static Group withSent(int sender, int count) {
        Group x = new RealGroup();
        for (int message = 0; message < count; message++) {
            x.send(sender);
        }
        return x;
    }

    /**
     * A group with a copy of every kind but dropped: 0 and 1 of member 0, 2 of member 1; 1 waits at
     * member 1, 2 is delivered to member 3, 0 is lost on its way to member 2.
     */
    static Group busy() {
        Group x = withSent(0, 2);
        x.send(1);
        x.arrive(1, 1);
        x.arrive(2, 3);
        x.lose(0, 2);
        return x;
    }

    /** The group in which message 0 of member 0 has been dropped: it had arrived nowhere. */
    static Group withDropped() {
        Group x = withSent(0, 1);
        x.fail(0);
        x.flush();
        return x;
    }

    /** Lets the copies of a message arrive at these members. */
    static void arriveAt(Group x, int message, int... members) {
        for (int member : members) {
            x.arrive(message, member);
        }
    }
}
