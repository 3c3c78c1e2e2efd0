/** The class under test behind the interface of the tests. */
final class RealGroup implements Group {
    private final Causewaymail x = new Causewaymail();

    public int send(int member) { return x.send(member); }
    public int arrive(int message, int member) { return x.arrive(message, member); }
    public void lose(int message, int member) { x.lose(message, member); }
    public void sendAgain(int message, int member) { x.sendAgain(message, member); }
    public int messages() { return x.messages(); }
    public int sender(int message) { return x.sender(message); }
    public int copy(int message, int member) { return x.copy(message, member); }
    public int clock(int member, int of) { return x.clock(member, of); }
    public int stamp(int message, int of) { return x.stamp(message, of); }
    public boolean precedes(int message, int other) { return x.precedes(message, other); }
    public boolean precedesByHistory(int message, int other) { return x.precedesByHistory(message, other); }
    public boolean areConcurrent(int message, int other) { return x.areConcurrent(message, other); }
    public int delivered(int member) { return x.delivered(member); }
    public int deliveredAt(int member, int place) { return x.deliveredAt(member, place); }
    public int waiting(int member) { return x.waiting(member); }
    public int waitingAt(int member, int place) { return x.waitingAt(member, place); }
    public int needs(int message, int member) { return x.needs(message, member); }
    public int firstNeeded(int message, int member) { return x.firstNeeded(message, member); }
    public int holder() { return x.holder(); }
    public int passToken(int member) { return x.passToken(member); }
    public int tell(int member) { return x.tell(member); }
    public int numbered() { return x.numbered(); }
    public int numberOf(int message) { return x.numberOf(message); }
    public int ordered(int member) { return x.ordered(member); }
    public int proposal(int message, int member) { return x.proposal(message, member); }
    public int agreed(int message) { return x.agreed(message); }
    public int agreedAt(int place) { return x.agreedAt(place); }
    public void fail(int member) { x.fail(member); }
    public int flush() { return x.flush(); }
    public boolean isAlive(int member) { return x.isAlive(member); }
    public int view() { return x.view(); }
}
