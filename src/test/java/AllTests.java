/** Runs every test of the project. */
public final class AllTests {
    private AllTests() { }

    public static void main(String[] args) {
        FaceTest.all();
        MessagesTest.all();
        ClocksTest.all();
        DeliveriesTest.all();
        TokenTest.all();
        AgreementTest.all();
        ViewsTest.all();
        LongRunsTest.all();
        Check.end();
    }
}
