/** Every boundary that the document names, sentence by sentence; and that no clause of it is left without a test. */
public final class EdgeTest {
    private EdgeTest() {
    }

    public static void main(String[] args) {
        EdgeText.run();
        EdgeLaws.run();
        EdgeFull.run();
        EdgeNow.run();
        EdgePlans.run();
        EdgeTables.run();
        EdgeReceipts.run();
        EdgeShops.run();
        EdgeTwo.run();
        EdgeYears.run();
        EdgeActs.run();
        EdgeTold.run();
        Edge.close();
        Doc.allQuoted();
        Check.end();
    }
}
