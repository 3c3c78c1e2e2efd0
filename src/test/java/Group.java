/** All calls of the document's face, so that the same test can drive the class and a plain model of it. */
interface Group {
    int send(int member);
    int arrive(int message, int member);
    void lose(int message, int member);
    void sendAgain(int message, int member);
    int messages();
    int sender(int message);
    int copy(int message, int member);
    int clock(int member, int of);
    int stamp(int message, int of);
    boolean precedes(int message, int other);
    boolean precedesByHistory(int message, int other);
    boolean areConcurrent(int message, int other);
    int delivered(int member);
    int deliveredAt(int member, int place);
    int waiting(int member);
    int waitingAt(int member, int place);
    int needs(int message, int member);
    int firstNeeded(int message, int member);
    int holder();
    int passToken(int member);
    int tell(int member);
    int numbered();
    int numberOf(int message);
    int ordered(int member);
    int proposal(int message, int member);
    int agreed(int message);
    int agreedAt(int place);
    void fail(int member);
    int flush();
    boolean isAlive(int member);
    int view();
}
