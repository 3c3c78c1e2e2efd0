import java.util.ArrayList;
import java.util.HashMap;
import java.util.HashSet;
import java.util.List;
import java.util.Map;
import java.util.Set;

/**
 * The document told a second time, by sets of messages instead of clocks and with nothing kept that
 * can be counted anew. It knows nothing of how Causewaymail does it.
 */
final class PlainGroup implements Group {
    private final List<Integer> senders = new ArrayList<>();
    private final List<Set<Integer>> histories = new ArrayList<>();
    private final List<int[]> copies = new ArrayList<>();
    private final List<int[]> proposals = new ArrayList<>();
    private final List<List<Integer>> got = new ArrayList<>();
    private final List<List<Integer>> waits = new ArrayList<>();
    private final List<Set<Integer>> knows = new ArrayList<>();
    private final List<Integer> numbers = new ArrayList<>();
    private final Map<Integer, Integer> agreements = new HashMap<>();
    private final Set<Integer> dropped = new HashSet<>();
    private final Set<Integer> alive = new HashSet<>(List.of(0, 1, 2, 3));
    private final Set<Integer> inView = new HashSet<>(List.of(0, 1, 2, 3));
    private final Map<Integer, Integer> orderedWhenFailed = new HashMap<>();
    private int everAgreed = 0;
    private int token = 0;
    private int views = 0;

    PlainGroup() {
        for (int member = 0; member < 4; member++) {
            got.add(new ArrayList<>());
            waits.add(new ArrayList<>());
            knows.add(new HashSet<>());
        }
    }

    private static void index(boolean fine) {
        if (!fine) throw new IndexOutOfBoundsException();
    }

    private static void state(boolean fine) {
        if (!fine) throw new IllegalStateException();
    }

    private boolean isMember(int member) { return member >= 0 && member <= 3; }

    private boolean isMessage(int message) { return message >= 0 && message < senders.size(); }

    private boolean viewIsWhole() { return alive.containsAll(inView); }

    public int send(int member) {
        index(isMember(member));
        state(alive.contains(member) && viewIsWhole() && senders.size() < 48);
        int message = senders.size();
        senders.add(member);
        histories.add(new HashSet<>(got.get(member)));
        proposals.add(new int[] {-1, -1, -1, -1});
        int[] row = new int[4];
        for (int m = 0; m < 4; m++) {
            row[m] = inView.contains(m) ? Causewaymail.ON_WAY : Causewaymail.LOST;
        }
        copies.add(row);
        deliver(message, member);
        propose(message, member);
        return message;
    }

    private void deliver(int message, int member) {
        copies.get(message)[member] = Causewaymail.DELIVERED;
        got.get(member).add(message);
        if (member == token) {
            if (!numbers.contains(message)) numbers.add(message);
            knows.get(member).add(message);
        }
    }

    private void propose(int message, int member) {
        int greatest = everAgreed;
        for (int[] row : proposals) {
            greatest = Math.max(greatest, row[member]);
        }
        proposals.get(message)[member] = greatest + 1;
        int most = -1;
        for (int m : inView) {
            if (proposals.get(message)[m] == -1) return;
            most = Math.max(most, proposals.get(message)[m]);
        }
        agree(message, most);
    }

    private void agree(int message, int number) {
        agreements.put(message, number);
        everAgreed = Math.max(everAgreed, number);
    }

    private int take(int message, int member) {
        copies.get(message)[member] = Causewaymail.WAITING;
        waits.get(member).add(message);
        int count = 0;
        boolean again = true;
        while (again) {
            again = false;
            for (int candidate : waits.get(member)) {
                if (got.get(member).containsAll(histories.get(candidate))) {
                    waits.get(member).remove((Integer) candidate);
                    deliver(candidate, member);
                    count++;
                    again = true;
                    break;
                }
            }
        }
        return count;
    }

    public int arrive(int message, int member) {
        index(isMessage(message) && isMember(member));
        state(alive.contains(member) && copies.get(message)[member] == Causewaymail.ON_WAY);
        int count = take(message, member);
        propose(message, member);
        return count;
    }

    public void lose(int message, int member) {
        index(isMessage(message) && isMember(member));
        state(copies.get(message)[member] == Causewaymail.ON_WAY);
        copies.get(message)[member] = Causewaymail.LOST;
    }

    public void sendAgain(int message, int member) {
        index(isMessage(message) && isMember(member));
        state(copies.get(message)[member] == Causewaymail.LOST);
        copies.get(message)[member] = Causewaymail.ON_WAY;
    }

    public int messages() { return senders.size(); }

    public int sender(int message) {
        index(isMessage(message));
        return senders.get(message);
    }

    public int copy(int message, int member) {
        index(isMessage(message) && isMember(member));
        return copies.get(message)[member];
    }

    private int countOf(Iterable<Integer> list, int sender) {
        int count = 0;
        for (int message : list) {
            if (senders.get(message) == sender) count++;
        }
        return count;
    }

    public int clock(int member, int of) {
        index(isMember(member) && isMember(of));
        return countOf(got.get(member), of);
    }

    public int stamp(int message, int of) {
        index(isMessage(message) && isMember(of));
        return countOf(histories.get(message), of) + (senders.get(message) == of ? 1 : 0);
    }

    public boolean precedes(int message, int other) {
        index(isMessage(message) && isMessage(other));
        int of = senders.get(message);
        return message != other && stamp(other, of) >= stamp(message, of);
    }

    public boolean precedesByHistory(int message, int other) {
        index(isMessage(message) && isMessage(other));
        return histories.get(other).contains(message);
    }

    public boolean areConcurrent(int message, int other) {
        index(isMessage(message) && isMessage(other));
        return message != other && !histories.get(other).contains(message) && !histories.get(message).contains(other);
    }

    public int delivered(int member) {
        index(isMember(member));
        return got.get(member).size();
    }

    public int deliveredAt(int member, int place) {
        index(isMember(member) && place >= 0 && place < got.get(member).size());
        return got.get(member).get(place);
    }

    public int waiting(int member) {
        index(isMember(member));
        return waits.get(member).size();
    }

    public int waitingAt(int member, int place) {
        index(isMember(member) && place >= 0 && place < waits.get(member).size());
        return waits.get(member).get(place);
    }

    private Set<Integer> needed(int message, int member) {
        Set<Integer> left = new HashSet<>(histories.get(message));
        left.removeAll(got.get(member));
        return left;
    }

    public int needs(int message, int member) {
        index(isMessage(message) && isMember(member));
        return needed(message, member).size();
    }

    public int firstNeeded(int message, int member) {
        index(isMessage(message) && isMember(member));
        int first = -1;
        for (int one : needed(message, member)) {
            if (first == -1 || one < first) first = one;
        }
        return first;
    }

    public int holder() { return token; }

    private int give(int member) {
        int before = numbers.size();
        token = member;
        for (int message : got.get(member)) {
            if (!numbers.contains(message)) numbers.add(message);
        }
        knows.get(member).addAll(numbers);
        return numbers.size() - before;
    }

    public int passToken(int member) {
        index(isMember(member));
        state(alive.contains(member) && viewIsWhole() && got.get(member).containsAll(numbers));
        return give(member);
    }

    public int tell(int member) {
        index(isMember(member));
        state(alive.contains(member));
        int count = 0;
        for (int message : numbers) {
            if (knows.get(member).add(message)) count++;
        }
        return count;
    }

    public int numbered() { return numbers.size(); }

    public int numberOf(int message) {
        index(isMessage(message));
        return numbers.indexOf(message);
    }

    public int ordered(int member) {
        index(isMember(member));
        if (orderedWhenFailed.containsKey(member)) return orderedWhenFailed.get(member);
        int count = 0;
        for (int message : numbers) {
            if (!knows.get(member).contains(message) || !got.get(member).contains(message)) break;
            count++;
        }
        return count;
    }

    public int proposal(int message, int member) {
        index(isMessage(message) && isMember(member));
        return proposals.get(message)[member];
    }

    public int agreed(int message) {
        index(isMessage(message));
        return agreements.getOrDefault(message, -1);
    }

    public int agreedAt(int place) {
        index(place >= 0 && place < agreements.size());
        List<Integer> order = new ArrayList<>(agreements.keySet());
        order.sort((one, two) -> Integer.compare(agreements.get(one), agreements.get(two)));
        return order.get(place);
    }

    public void fail(int member) {
        index(isMember(member));
        state(alive.contains(member) && alive.size() > 1);
        int ordered = ordered(member);
        alive.remove(member);
        orderedWhenFailed.put(member, ordered);
    }

    private boolean isKept(int message) {
        for (int member : alive) {
            int copy = copies.get(message)[member];
            if (copy == Causewaymail.DELIVERED || copy == Causewaymail.WAITING) return true;
        }
        return false;
    }

    public int flush() {
        state(!viewIsWhole());
        Set<Integer> gone = new HashSet<>();
        for (int message = 0; message < senders.size(); message++) {
            if (!dropped.contains(message) && !isKept(message)) gone.add(message);
        }
        for (int message = 0; message < senders.size(); message++) {
            for (int before : histories.get(message)) {
                if (!dropped.contains(message) && !isKept(before)) gone.add(message);
            }
        }
        for (int message : gone) {
            dropped.add(message);
            copies.set(message, new int[] {4, 4, 4, 4});
            numbers.remove((Integer) message);
            agreements.remove(message);
            for (int member : alive) waits.get(member).remove((Integer) message);
        }
        for (int member = 0; member < 4; member++) {
            for (int message = 0; message < senders.size() && alive.contains(member); message++) {
                int copy = copies.get(message)[member];
                if (copy == Causewaymail.ON_WAY || copy == Causewaymail.LOST) take(message, member);
            }
        }
        inView.retainAll(alive);
        views++;
        if (!alive.contains(token)) {
            int least = 0;
            while (!alive.contains(least)) least++;
            give(least);
        }
        for (int member : alive) knows.get(member).addAll(numbers);
        agreeOnRest();
        return gone.size();
    }

    private int greatestProposal(int message) {
        int greatest = -1;
        for (int number : proposals.get(message)) greatest = Math.max(greatest, number);
        return greatest;
    }

    private void agreeOnRest() {
        List<Integer> open = new ArrayList<>();
        for (int message = 0; message < senders.size(); message++) {
            if (!dropped.contains(message) && !agreements.containsKey(message)) open.add(message);
        }
        open.sort((one, two) -> greatestProposal(one) != greatestProposal(two)
                ? greatestProposal(one) - greatestProposal(two) : one - two);
        for (int message : open) agree(message, everAgreed + 1);
    }

    public boolean isAlive(int member) {
        index(isMember(member));
        return alive.contains(member);
    }

    public int view() { return views; }
}
