/** Each sentence of the document that names an edge, and whether it holds there: the promise and the sentence by name. */
final class EdgeTest {
    public static void main(String[] args) {
        EdgePeople.all();
        EdgeTape.all();
        EdgeAsks.all();
        EdgeAgree.all();
        EdgePlans.all();
        EdgeDays.all();
        EdgeFacts.all();
        EdgeCounts.all();
        Edge.finish();
    }
}
