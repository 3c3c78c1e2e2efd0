/** All that a group answers, as one text. */
final class Snapshot {
    private Snapshot() { }

    static String of(Group x) {
        StringBuilder text = new StringBuilder();
        text.append("messages ").append(x.messages()).append(" holder ").append(x.holder());
        text.append(" numbered ").append(x.numbered()).append(" view ").append(x.view()).append('\n');
        for (int member = 0; member < 4; member++) {
            addMember(text, x, member);
        }
        for (int message = 0; message < x.messages(); message++) {
            addMessage(text, x, message);
        }
        text.append("agreed order");
        for (int place = 0; place < countAgreed(x); place++) {
            text.append(' ').append(x.agreedAt(place));
        }
        return text.append('\n').toString();
    }

    /** What every two messages are to each other: asked more seldom, for it is long. */
    static String ofPairs(Group x) {
        StringBuilder text = new StringBuilder();
        for (int one = 0; one < x.messages(); one++) {
            for (int two = 0; two < x.messages(); two++) {
                text.append(x.precedes(one, two) ? 'p' : '-');
                text.append(x.precedesByHistory(one, two) ? 'h' : '-');
                text.append(x.areConcurrent(one, two) ? 'c' : '-').append(' ');
            }
            text.append('\n');
        }
        return text.toString();
    }

    private static int countAgreed(Group x) {
        int count = 0;
        for (int message = 0; message < x.messages(); message++) {
            count += x.agreed(message) == Causewaymail.NONE ? 0 : 1;
        }
        return count;
    }

    private static void addMember(StringBuilder text, Group x, int member) {
        text.append("member ").append(member).append(x.isAlive(member) ? " alive" : " failed").append(" clock");
        for (int of = 0; of < 4; of++) {
            text.append(' ').append(x.clock(member, of));
        }
        text.append(" delivered");
        for (int place = 0; place < x.delivered(member); place++) {
            text.append(' ').append(x.deliveredAt(member, place));
        }
        text.append(" waiting");
        for (int place = 0; place < x.waiting(member); place++) {
            text.append(' ').append(x.waitingAt(member, place));
        }
        text.append(" ordered ").append(x.ordered(member)).append('\n');
    }

    private static void addMessage(StringBuilder text, Group x, int message) {
        text.append("message ").append(message).append(" of ").append(x.sender(message));
        text.append(" number ").append(x.numberOf(message)).append(" agreed ").append(x.agreed(message));
        for (int member = 0; member < 4; member++) {
            text.append(" | copy ").append(x.copy(message, member)).append(" stamp ").append(x.stamp(message, member));
            text.append(" proposal ").append(x.proposal(message, member));
            text.append(" needs ").append(x.needs(message, member)).append(" first ").append(x.firstNeeded(message, member));
        }
        text.append('\n');
    }
}
