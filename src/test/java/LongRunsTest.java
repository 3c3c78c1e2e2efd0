/** Long runs of calls, told from a seed, in which Causewaymail must answer as the plain model does. */
final class LongRunsTest {
    private static final int RUNS = 400;
    private static final int CALLS = 512;

    private long seed;
    private final Group real = new RealGroup();
    private final Group plain = new PlainGroup();
    private final StringBuilder told = new StringBuilder();
    private final int failures;
    private final boolean slow;

    private LongRunsTest(long seed) {
        this.seed = seed * 1_000_003L + 17;
        // Runs with few failures get long, those with many see several flushes early.
        this.failures = (int) (seed % 4);
        // Where few copies arrive, a failure leaves much that is dropped.
        this.slow = seed % 3 == 0;
    }

    static void all() {
        Check.test("all promises: long runs answer as the plain model", () -> {
            for (int run = 0; run < RUNS && !Check.anythingWrong(); run++) {
                new LongRunsTest(run).drive();
            }
        });
    }

    /** A number from 0 to below the bound, by a plain linear congruence: the same in every run. */
    private int next(int bound) {
        seed = seed * 6364136223846793005L + 1442695040888963407L;
        return (int) Long.remainderUnsigned(seed >>> 33, bound);
    }

    private void drive() {
        for (int call = 0; call < CALLS && !Check.anythingWrong(); call++) {
            step();
            compare("after", Snapshot.of(real), Snapshot.of(plain));
            if (call % 64 == 63) {
                compare("pairs after", Snapshot.ofPairs(real), Snapshot.ofPairs(plain));
            }
        }
    }

    private void compare(String what, String got, String due) {
        if (!got.equals(due)) {
            Check.same(what + told, got, due);
        }
    }

    private int anyMember() {
        return next(24) == 0 ? (next(2) == 0 ? 4 : -1) : next(4);
    }

    private int anyMessage() {
        int most = plain.messages();
        return next(24) == 0 || most == 0 ? (next(2) == 0 ? most : -1) : next(most);
    }

    private void step() {
        int kind = next(1000);
        int member = anyMember();
        int message = anyMessage();
        if (kind < 130) {
            both("send(" + member + ")", x -> x.send(member));
        } else if (kind < 560) {
            arriveSomewhere(member, message);
        } else if (kind < 640) {
            both("lose(" + message + "," + member + ")", x -> { x.lose(message, member); return 0; });
        } else if (kind < 740) {
            both("sendAgain(" + message + "," + member + ")", x -> { x.sendAgain(message, member); return 0; });
        } else if (kind < 830) {
            both("passToken(" + member + ")", x -> x.passToken(member));
        } else if (kind < 910) {
            both("tell(" + member + ")", x -> x.tell(member));
        } else if (kind < 918 + 6 * failures) {
            both("fail(" + member + ")", x -> { x.fail(member); return 0; });
        } else if (kind < 960) {
            both("flush()", Group::flush);
        } else {
            ask(kind, member, message);
        }
    }

    /** Arrives a copy that is on its way, if a few tries find one. */
    private void arriveSomewhere(int member, int message) {
        if (slow && next(5) != 0) {
            return;
        }
        for (int tries = 0; tries < 6; tries++) {
            int to = next(4);
            int one = plain.messages() == 0 ? 0 : next(plain.messages());
            if (plain.messages() > 0 && plain.copy(one, to) == Causewaymail.ON_WAY) {
                both("arrive(" + one + "," + to + ")", x -> x.arrive(one, to));
                return;
            }
        }
        both("arrive(" + message + "," + member + ")", x -> x.arrive(message, member));
    }

    private void ask(int kind, int member, int message) {
        int place = next(6) - 1;
        switch (kind % 7) {
            case 0 -> both("agreedAt(" + place + ")", x -> x.agreedAt(place));
            case 1 -> both("deliveredAt(" + member + "," + place + ")", x -> x.deliveredAt(member, place));
            case 2 -> both("waitingAt(" + member + "," + place + ")", x -> x.waitingAt(member, place));
            case 3 -> both("needs(" + message + "," + member + ")", x -> x.needs(message, member));
            case 4 -> both("ordered(" + member + ")", x -> x.ordered(member));
            case 5 -> both("copy(" + message + "," + member + ")", x -> x.copy(message, member));
            default -> both("clock(" + member + "," + place + ")", x -> x.clock(member, place));
        }
    }

    private interface Ask { int of(Group x); }

    private void both(String call, Ask ask) {
        told.append(' ').append(call);
        String got = answer(real, ask);
        String due = answer(plain, ask);
        if (!got.equals(due)) {
            Check.wrong("run" + told + "\n  answered " + got + ", due is " + due);
        }
    }

    private static String answer(Group x, Ask ask) {
        int[] answer = new int[1];
        String thrown = Check.thrownBy(() -> answer[0] = ask.of(x));
        return thrown.equals("nothing") ? Integer.toString(answer[0]) : thrown;
    }
}
