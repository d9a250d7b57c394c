/**
 * For each sentence of the document cases of their own, which name the promise and quote the sentence; a boundary that it
 * names (too small, too large, empty, full, a wrap-around, a refused call) has a case for itself.
 */
public final class EdgeTest extends Edges {
    public static void main(String[] args) {
        MeaningEdges.run();
        MethodEdges.run();
        MemberEdges.run();
        SecretEdges.run();
        OpeningEdges.run();
        ShareEdges.run();
        PolicyEdges.run();
        GroupEdges.run();
        ReportEdges.run();
        ArgumentEdges.run();
        RefusalEdges.run();
        for (int promise = 1; promise <= 37; promise++) {
            if (!PROMISES.contains(promise)) {
                fault("promise " + promise, "no case");
            }
        }
        for (String sentence : Document.unquoted()) {
            fault("document", "no case quotes " + sentence);
        }
        System.out.println(wrong == 0 ? cases + " edge cases (" + checks + " checks) hold" : wrong + " checks do not hold");
        if (wrong != 0) {
            System.exit(1);
        }
    }
}
