import java.util.ArrayList;
import java.util.Arrays;

/**
 * A group of four members that send messages to all, delivered in causal order by vector clocks,
 * with a total order by a token and another one by agreement.
 */
public final class Causewaymail {
    public static final int ON_WAY = 0;
    public static final int WAITING = 1;
    public static final int DELIVERED = 2;
    public static final int LOST = 3;
    public static final int DROPPED = 4;
    public static final int NONE = -1;

    private static final int MEMBERS = 4;
    private static final int MOST_MESSAGES = 48;

    private final Member[] members;
    private final ArrayList<Message> sent;
    private final ArrayList<Message> numberedOrder;
    private final ArrayList<Message> agreedOrder;
    private int tokenHolder;
    private int greatestAgreed;
    private int viewNumber;

    public Causewaymail() {
        members = new Member[MEMBERS];
        for (int member = 0; member < MEMBERS; member++) {
            members[member] = new Member(member);
        }
        sent = new ArrayList<>();
        numberedOrder = new ArrayList<>();
        agreedOrder = new ArrayList<>();
    }

    // ---- messages

    public int send(int member) throws IndexOutOfBoundsException, IllegalStateException {
        requireMember(member);
        if (!members[member].alive || hasFailureInView() || sent.size() >= MOST_MESSAGES) {
            throw new IllegalStateException("nothing can be sent by this member now");
        }
        Member sender = members[member];
        Message message = new Message(sent.size(), member, sender.received.size());
        sent.add(message);
        putOnWay(message);
        deliver(message, sender);
        System.arraycopy(sender.clock, 0, message.stamp, 0, MEMBERS);
        propose(message, sender);
        return message.id;
    }

    public int arrive(int message, int member)
            throws IndexOutOfBoundsException, IllegalStateException {
        requireCopy(message, member);
        if (!members[member].alive || sent.get(message).copies[member] != ON_WAY) {
            throw new IllegalStateException("the copy can't arrive");
        }
        propose(sent.get(message), members[member]);
        return takeIn(sent.get(message), members[member]);
    }

    public void lose(int message, int member)
            throws IndexOutOfBoundsException, IllegalStateException {
        requireCopy(message, member);
        if (sent.get(message).copies[member] != ON_WAY) {
            throw new IllegalStateException("the copy is not on its way");
        }
        sent.get(message).copies[member] = LOST;
    }

    public void sendAgain(int message, int member)
            throws IndexOutOfBoundsException, IllegalStateException {
        requireCopy(message, member);
        if (sent.get(message).copies[member] != LOST) {
            throw new IllegalStateException("the copy is not lost");
        }
        sent.get(message).copies[member] = ON_WAY;
    }

    public int messages() {
        return sent.size();
    }

    public int sender(int message) throws IndexOutOfBoundsException {
        requireMessage(message);
        return sent.get(message).sender;
    }

    public int copy(int message, int member) throws IndexOutOfBoundsException {
        requireCopy(message, member);
        return sent.get(message).copies[member];
    }

    // ---- clocks

    public int clock(int member, int of) throws IndexOutOfBoundsException {
        requireMember(member);
        requireMember(of);
        return members[member].clock[of];
    }

    public int stamp(int message, int of) throws IndexOutOfBoundsException {
        requireCopy(message, of);
        return sent.get(message).stamp[of];
    }

    public boolean precedes(int message, int other) throws IndexOutOfBoundsException {
        requireMessage(message);
        requireMessage(other);
        return sent.get(message).isBefore(sent.get(other));
    }

    public boolean precedesByHistory(int message, int other) throws IndexOutOfBoundsException {
        requireMessage(message);
        requireMessage(other);
        return sent.get(message).isInHistoryOf(sent.get(other));
    }

    public boolean areConcurrent(int message, int other) throws IndexOutOfBoundsException {
        requireMessage(message);
        requireMessage(other);
        Message one = sent.get(message);
        Message two = sent.get(other);
        return one != two && !one.isBefore(two) && !two.isBefore(one);
    }

    // ---- deliveries

    public int delivered(int member) throws IndexOutOfBoundsException {
        requireMember(member);
        return members[member].received.size();
    }

    public int deliveredAt(int member, int place) throws IndexOutOfBoundsException {
        requireMember(member);
        requirePlace(members[member].received, place);
        return members[member].received.get(place).id;
    }

    public int waiting(int member) throws IndexOutOfBoundsException {
        requireMember(member);
        return members[member].held.size();
    }

    public int waitingAt(int member, int place) throws IndexOutOfBoundsException {
        requireMember(member);
        requirePlace(members[member].held, place);
        return members[member].held.get(place).id;
    }

    public int needs(int message, int member) throws IndexOutOfBoundsException {
        requireCopy(message, member);
        int count = 0;
        for (int earlier = 0; earlier < message; earlier++) {
            if (isNeeded(earlier, message, member)) {
                count++;
            }
        }
        return count;
    }

    public int firstNeeded(int message, int member) throws IndexOutOfBoundsException {
        requireCopy(message, member);
        for (int earlier = 0; earlier < message; earlier++) {
            if (isNeeded(earlier, message, member)) {
                return earlier;
            }
        }
        return NONE;
    }

    // ---- the order by the token

    public int holder() {
        return tokenHolder;
    }

    public int passToken(int member) throws IndexOutOfBoundsException, IllegalStateException {
        requireMember(member);
        if (!members[member].alive || hasFailureInView() || !hasAllNumbered(member)) {
            throw new IllegalStateException("the token can't go to this member now");
        }
        return giveToken(members[member]);
    }

    public int tell(int member) throws IndexOutOfBoundsException, IllegalStateException {
        requireMember(member);
        if (!members[member].alive) {
            throw new IllegalStateException("the member has failed");
        }
        int unknown = numberedOrder.size() - members[member].known;
        members[member].known = numberedOrder.size();
        return unknown;
    }

    public int numbered() {
        return numberedOrder.size();
    }

    public int numberOf(int message) throws IndexOutOfBoundsException {
        requireMessage(message);
        return sent.get(message).number;
    }

    public int ordered(int member) throws IndexOutOfBoundsException {
        requireMember(member);
        // A later flush can void numbers that a failed member had, so its count is kept aside.
        return members[member].alive ? countOrdered(members[member]) : members[member].lastOrdered;
    }

    // ---- the order by agreement

    public int proposal(int message, int member) throws IndexOutOfBoundsException {
        requireCopy(message, member);
        return sent.get(message).proposals[member];
    }

    public int agreed(int message) throws IndexOutOfBoundsException {
        requireMessage(message);
        return sent.get(message).agreement;
    }

    public int agreedAt(int place) throws IndexOutOfBoundsException {
        requirePlace(agreedOrder, place);
        return agreedOrder.get(place).id;
    }

    // ---- views

    public void fail(int member) throws IndexOutOfBoundsException, IllegalStateException {
        requireMember(member);
        if (!members[member].alive || countAlive() == 1) {
            throw new IllegalStateException("the member has failed, or is the only one alive");
        }
        members[member].lastOrdered = countOrdered(members[member]);
        members[member].alive = false;
    }

    public int flush() throws IllegalStateException {
        if (!hasFailureInView()) {
            throw new IllegalStateException("no member of the view has failed");
        }
        int dropped = dropUndeliverable();
        letAllArrive();
        changeView();
        agreeOnTheRest();
        return dropped;
    }

    public boolean isAlive(int member) throws IndexOutOfBoundsException {
        requireMember(member);
        return members[member].alive;
    }

    public int view() {
        return viewNumber;
    }

    // ---- what the calls refuse

    private void requireMember(int member) {
        if (member < 0 || member >= MEMBERS) {
            throw new IndexOutOfBoundsException("no such member");
        }
    }

    private void requireMessage(int message) {
        if (message < 0 || message >= sent.size()) {
            throw new IndexOutOfBoundsException("no such message");
        }
    }

    private void requireCopy(int message, int member) {
        requireMessage(message);
        requireMember(member);
    }

    private void requirePlace(ArrayList<Message> list, int place) {
        if (place < 0 || place >= list.size()) {
            throw new IndexOutOfBoundsException("no such place");
        }
    }

    // ---- arriving and delivering

    private void putOnWay(Message message) {
        for (int member = 0; member < MEMBERS; member++) {
            message.copies[member] = members[member].inView ? ON_WAY : LOST;
        }
    }

    /** Returns how many copies are delivered to the member by this. */
    private int takeIn(Message message, Member member) {
        if (!member.canReceive(message)) {
            message.copies[member.id] = WAITING;
            member.held.add(message);
            return 0;
        }
        deliver(message, member);
        return 1 + deliverHeld(member);
    }

    private int deliverHeld(Member member) {
        int most = member.held.size();
        for (int count = 0; count < most; count++) {
            int place = member.firstReceivable();
            if (place == NONE) {
                return count;
            }
            deliver(member.held.remove(place), member);
        }
        return most;
    }

    private void deliver(Message message, Member member) {
        message.copies[member.id] = DELIVERED;
        message.places[member.id] = member.received.size();
        member.received.add(message);
        member.clock[message.sender]++;
        if (member.id == tokenHolder) {
            giveNumber(message);
            member.known = numberedOrder.size();
        }
    }

    private boolean isNeeded(int earlier, int message, int member) {
        // What was delivered is asked here, not the copy: that of a failed member can be dropped.
        return sent.get(earlier).isBefore(sent.get(message))
                && !sent.get(earlier).wasDeliveredTo(member);
    }

    // ---- numbering by the token

    private void giveNumber(Message message) {
        if (message.number == NONE) {
            message.number = numberedOrder.size();
            numberedOrder.add(message);
        }
    }

    /** Returns how many messages get numbers by this. */
    private int giveToken(Member member) {
        int before = numberedOrder.size();
        tokenHolder = member.id;
        for (int place = 0; place < member.received.size(); place++) {
            giveNumber(member.received.get(place));
        }
        member.known = numberedOrder.size();
        return numberedOrder.size() - before;
    }

    private boolean hasAllNumbered(int member) {
        for (int number = 0; number < numberedOrder.size(); number++) {
            if (!numberedOrder.get(number).wasDeliveredTo(member)) {
                return false;
            }
        }
        return true;
    }

    private int countOrdered(Member member) {
        int most = Math.min(member.known, numberedOrder.size());
        for (int number = 0; number < most; number++) {
            if (!numberedOrder.get(number).wasDeliveredTo(member.id)) {
                return number;
            }
        }
        return most;
    }

    // ---- agreeing on numbers

    private void propose(Message message, Member member) {
        int number = Math.max(member.greatestProposed, greatestAgreed) + 1;
        member.greatestProposed = number;
        message.proposals[member.id] = number;
        if (hasAllProposals(message)) {
            agreeOn(message, message.greatestProposal());
        }
    }

    private boolean hasAllProposals(Message message) {
        for (int member = 0; member < MEMBERS; member++) {
            if (members[member].inView && message.proposals[member] == NONE) {
                return false;
            }
        }
        return true;
    }

    private void agreeOn(Message message, int number) {
        message.agreement = number;
        greatestAgreed = number;
        // The last proposal is above all that was agreed before, so the list stays in order.
        agreedOrder.add(message);
    }

    // ---- failing and flushing

    private int countAlive() {
        int count = 0;
        for (int member = 0; member < MEMBERS; member++) {
            if (members[member].alive) {
                count++;
            }
        }
        return count;
    }

    private boolean hasFailureInView() {
        for (int member = 0; member < MEMBERS; member++) {
            if (members[member].inView && !members[member].alive) {
                return true;
            }
        }
        return false;
    }

    /** The first step of a flush. Returns how many messages are dropped. */
    private int dropUndeliverable() {
        int count = 0;
        // A message is sent behind all that precede it, so one walk in this order meets those first.
        for (int message = 0; message < sent.size(); message++) {
            Message one = sent.get(message);
            if (!one.dropped && (!isWithSomeoneAlive(one) || followsDropped(one))) {
                drop(one);
                count++;
            }
        }
        return count;
    }

    private boolean isWithSomeoneAlive(Message message) {
        for (int member = 0; member < MEMBERS; member++) {
            int state = message.copies[member];
            if (members[member].alive && (state == DELIVERED || state == WAITING)) {
                return true;
            }
        }
        return false;
    }

    private boolean followsDropped(Message message) {
        for (int earlier = 0; earlier < sent.size(); earlier++) {
            if (sent.get(earlier).dropped && sent.get(earlier).isBefore(message)) {
                return true;
            }
        }
        return false;
    }

    private void drop(Message message) {
        message.dropped = true;
        Arrays.fill(message.copies, DROPPED);
        for (int member = 0; member < MEMBERS; member++) {
            // A failed member is told as it was, so what waited there still does.
            if (members[member].alive) {
                takeOut(members[member].held, message);
            }
        }
        takeOut(agreedOrder, message);
        message.agreement = NONE;
        takeOut(numberedOrder, message);
        message.number = NONE;
        for (int number = 0; number < numberedOrder.size(); number++) {
            numberedOrder.get(number).number = number;
        }
    }

    private void takeOut(ArrayList<Message> list, Message message) {
        for (int place = 0; place < list.size(); place++) {
            if (list.get(place) == message) {
                list.remove(place);
                return;
            }
        }
    }

    /** The second step of a flush. */
    private void letAllArrive() {
        for (int member = 0; member < MEMBERS; member++) {
            for (int message = 0; message < sent.size(); message++) {
                int state = sent.get(message).copies[member];
                if (members[member].alive && (state == ON_WAY || state == LOST)) {
                    takeIn(sent.get(message), members[member]);
                }
            }
        }
    }

    /** The third step of a flush. */
    private void changeView() {
        for (int member = 0; member < MEMBERS; member++) {
            members[member].inView = members[member].alive;
        }
        viewNumber++;
        if (!members[tokenHolder].alive) {
            giveToken(leastAlive());
        }
        for (int member = 0; member < MEMBERS; member++) {
            if (members[member].alive) {
                members[member].known = numberedOrder.size();
            }
        }
    }

    private Member leastAlive() {
        for (int member = 0; member < MEMBERS; member++) {
            if (members[member].alive) {
                return members[member];
            }
        }
        return members[tokenHolder];
    }

    /** The fourth step of a flush. */
    private void agreeOnTheRest() {
        for (int round = 0; round < sent.size(); round++) {
            Message next = nextToAgreeOn();
            if (next == null) {
                return;
            }
            agreeOn(next, greatestAgreed + 1);
        }
    }

    /** Returns the open message with the least of the greatest proposals; null if there is none. */
    private Message nextToAgreeOn() {
        Message next = null;
        for (int message = 0; message < sent.size(); message++) {
            Message one = sent.get(message);
            boolean open = !one.dropped && one.agreement == NONE;
            if (open && (next == null || one.greatestProposal() < next.greatestProposal())) {
                next = one;
            }
        }
        return next;
    }

    /** A member, with all that is told about it. */
    private static final class Member {
        final int id;
        /** How many messages of each member were delivered to this one. */
        final int[] clock;
        final ArrayList<Message> received;
        final ArrayList<Message> held;
        /** How many numbers it knows; they are always those from 0 on, without a gap. */
        int known;
        int greatestProposed;
        boolean alive;
        boolean inView;
        /** How many messages its total order had when it failed. */
        int lastOrdered;

        Member(int id) {
            this.id = id;
            clock = new int[MEMBERS];
            received = new ArrayList<>();
            held = new ArrayList<>();
            alive = true;
            inView = true;
        }

        boolean canReceive(Message message) {
            for (int of = 0; of < MEMBERS; of++) {
                int given = message.stamp[of];
                if (of == message.sender ? given != clock[of] + 1 : given > clock[of]) {
                    return false;
                }
            }
            return true;
        }

        /** Returns the place of the held message to deliver next; NONE if there is none. */
        int firstReceivable() {
            for (int place = 0; place < held.size(); place++) {
                if (canReceive(held.get(place))) {
                    return place;
                }
            }
            return NONE;
        }
    }

    /** A message, with its copies for all members. */
    private static final class Message {
        final int id;
        final int sender;
        /** How many messages had been delivered to the sender before it sent this one. */
        final int historyLength;
        final int[] stamp;
        final int[] copies;
        final int[] proposals;
        /** Where it stands among the messages delivered to each member; NONE if it does not. */
        final int[] places;
        int number;
        int agreement;
        boolean dropped;

        Message(int id, int sender, int historyLength) {
            this.id = id;
            this.sender = sender;
            this.historyLength = historyLength;
            stamp = new int[MEMBERS];
            copies = new int[MEMBERS];
            proposals = new int[MEMBERS];
            places = new int[MEMBERS];
            Arrays.fill(proposals, NONE);
            Arrays.fill(places, NONE);
            number = NONE;
            agreement = NONE;
        }

        boolean wasDeliveredTo(int member) {
            return places[member] != NONE;
        }

        boolean isBefore(Message other) {
            return this != other && other.stamp[sender] >= stamp[sender];
        }

        boolean isInHistoryOf(Message other) {
            int place = places[other.sender];
            return place != NONE && place < other.historyLength;
        }

        int greatestProposal() {
            int greatest = NONE;
            for (int member = 0; member < MEMBERS; member++) {
                greatest = Math.max(greatest, proposals[member]);
            }
            return greatest;
        }
    }
}
