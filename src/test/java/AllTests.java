/** Runs every test of the project. */
public final class AllTests {
    private AllTests() { }

    public static void main(String[] args) {
        FaceTest.all();
        MessagesTest.all();
        ClocksTest.all();
        DeliveriesTest.all();
        TokenTest.all();
        AgreementTest.all();
        ViewsTest.all();
        MessageEdgesTest.all();
        ClockEdgesTest.all();
        DeliveryEdgesTest.all();
        TokenEdgesTest.all();
        AgreementEdgesTest.all();
        ViewEdgesTest.all();
        FlushEdgesTest.all();
        RefusalTest.all();
        ReadmeTest.all();
        LongRunsTest.all();
        Check.test("each promise, 1 to 32, has tests that name it", AllTests::everyPromiseNamed);
        Check.end();
    }

    private static void everyPromiseNamed() {
        for (int promise = 1; promise <= 32; promise++) {
            Check.same("promise " + promise + " is named", Check.testsOf(promise) > 0, true);
        }
    }
}
