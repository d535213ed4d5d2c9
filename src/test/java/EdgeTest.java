/**
 * Each sentence of the document that names a boundary case has a trial of its own, under the sentence's own
 * words; words of the document that no trial quotes are a fault.
 */
public final class EdgeTest {
    public static void main(String[] args) {
        TermsEdges.all();
        LawEdges.all();
        KitchenEdges.all();
        BanquetEdges.all();
        FurtherEdges.all();
        JoyEdges.all();
        MenuEdges.all();
        KeptEdges.all();
        Trial.endAll("EdgeTest");
    }
}
