/** The sentence on exceptions, and the 512 calls that an object is used for. */
final class RefusalTest {
    private static final int CALLS = 512;

    private long seed;

    private RefusalTest(long seed) {
        this.seed = seed * 1_000_003L + 5;
    }

    static void all() {
        Check.test("promise 2: of two exceptions of send, the index comes first", RefusalTest::sendFirst);
        Check.test("promise 3: of two exceptions of arrive, the index comes first", RefusalTest::arriveFirst);
        Check.test("promise 4: of two exceptions of lose, the index comes first", RefusalTest::loseFirst);
        Check.test("promise 5: of two exceptions of sendAgain, the index comes first", RefusalTest::sendAgainFirst);
        Check.test("promise 21: of two exceptions of passToken, the index comes first", RefusalTest::passTokenFirst);
        Check.test("promise 22: of two exceptions of tell, the index comes first", RefusalTest::tellFirst);
        Check.test("promise 29: of two exceptions of fail, the index comes first", RefusalTest::failFirst);
        Check.test("promises 2 to 30: a call that throws changes nothing", () -> {
            for (int run = 0; run < 60 && !Check.anythingWrong(); run++) {
                new RefusalTest(run).compareWithoutRefused();
            }
        });
        Check.test("promises 1 to 32: the 512th call answers as the first", RefusalTest::lastCall);
    }

    private static void sendFirst() {
        Group x = Edges.withSent(0, 48);
        Edges.noMember("send when there are 48", x, x::send);
        x.fail(2);
        Edges.noMember("send beside a failed one", x, x::send);
    }

    private static void arriveFirst() {
        Group x = Edges.busy();
        x.fail(3);
        Edges.noMessage("arrive at a failed one", x, message -> x.arrive(message, 3));
        Edges.noMember("arrive of a delivered one", x, member -> x.arrive(0, member));
        Edges.noMember("arrive of none", x, member -> x.arrive(3, member));
    }

    private static void loseFirst() {
        Group x = Edges.withDropped();
        Edges.noMessage("lose", x, message -> x.lose(message, 0));
        Edges.noMember("lose of a dropped one", x, member -> x.lose(0, member));
        Edges.noMember("lose of none", x, member -> x.lose(1, member));
    }

    private static void sendAgainFirst() {
        Group x = Edges.withDropped();
        Edges.noMessage("sendAgain", x, message -> x.sendAgain(message, 0));
        Edges.noMember("sendAgain of a dropped one", x, member -> x.sendAgain(0, member));
        Edges.noMember("sendAgain of none", x, member -> x.sendAgain(1, member));
    }

    private static void passTokenFirst() {
        Group x = Edges.withSent(0, 1);
        Edges.noMember("passToken where 0 is missing", x, x::passToken);
        x.fail(1);
        Edges.noMember("passToken beside a failed one", x, x::passToken);
    }

    private static void tellFirst() {
        Group x = Edges.withSent(0, 1);
        x.fail(1);
        Edges.noMember("tell beside a failed one", x, x::tell);
    }

    private static void failFirst() {
        Group x = new RealGroup();
        x.fail(0);
        x.fail(1);
        x.fail(2);
        Edges.noMember("fail when one is alive", x, x::fail);
    }

    /** A number from 0 to below the bound, by a plain linear congruence: the same in every run. */
    private int next(int bound) {
        seed = seed * 6364136223846793005L + 1442695040888963407L;
        return (int) Long.remainderUnsigned(seed >>> 33, bound);
    }

    /** One group gets all calls, the other one just those that the first did not refuse. */
    private void compareWithoutRefused() {
        Group all = new RealGroup();
        Group accepted = new RealGroup();
        int refused = 0;
        for (int call = 0; call < CALLS; call++) {
            int kind = next(60);
            int member = next(6) - 1;
            int message = next(all.messages() + 2) - 1;
            int[] answers = new int[2];
            if (!Check.thrownBy(() -> answers[0] = make(all, kind, member, message)).equals("nothing")) {
                refused++;
                continue;
            }
            answers[1] = make(accepted, kind, member, message);
            Check.same("call " + call + " of kind " + kind, answers[0], answers[1]);
        }
        Check.same("all that is answered", Snapshot.of(all) + Snapshot.ofPairs(all),
                Snapshot.of(accepted) + Snapshot.ofPairs(accepted));
        Check.same("some were refused", refused > 50 && refused < CALLS, true);
    }

    private static int make(Group x, int kind, int member, int message) {
        if (kind < 8) {
            return x.send(member);
        } else if (kind < 32) {
            return x.arrive(message, member);
        } else if (kind < 37) {
            x.lose(message, member);
        } else if (kind < 43) {
            x.sendAgain(message, member);
        } else if (kind < 48) {
            return x.passToken(member);
        } else if (kind < 53) {
            return x.tell(member);
        } else if (kind == 53) {
            x.fail(member);
        } else if (kind < 56) {
            return x.flush();
        } else {
            return x.needs(message, member) + x.ordered(member) + x.agreedAt(message);
        }
        return 0;
    }

    private static void lastCall() {
        Group x = Edges.withSent(0, 48);
        int calls = 48;
        for (int message = 0; message < 48; message++) {
            Edges.arriveAt(x, message, 1, 2, 3);
            calls += 3;
        }
        while (calls < CALLS - 1) {
            Check.same("copy(47, 3)", x.copy(47, 3), Causewaymail.DELIVERED);
            calls++;
        }
        Check.same("agreedAt(47), the 512th call", x.agreedAt(47), 47);
    }
}
