/** The edges that the document names, sentence by sentence; every word of it must have a test that quotes it. */
public final class EdgeTests {
    private EdgeTests() {
    }

    public static void main(String[] args) throws Exception {
        Desk.readDocument();
        EdgesOfPartOne.all();
        EdgesOfPartTwo.all();
        EdgesOfCalls.all();
        Desk.dueWholeDocument();
        int wrong = Desk.faults();
        System.out.println(wrong == 0 ? "all edges hold" : wrong + " answers are not as due");
        if (wrong != 0) {
            System.exit(1);
        }
    }
}
