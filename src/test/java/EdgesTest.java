/**
 * The document sentence by sentence: each one that names a boundary is tested on it, just below and just above,
 * with answers worked out from its words. Each test begins with Check.stands(promise, the sentence).
 */
final class EdgesTest {
    public static void main(String[] args) {
        EdgesOfTape.all();
        EdgesOfText.all();
        EdgesOfLooks.all();
        EdgesOfWidths.all();
        EdgesOfWays.all();
        EdgesOfMany.all();
        EdgesOfActs.all();
        EdgesOfSeen.all();
        EdgesOfQuestions.all();
        EdgesOfImages.all();
        for (String left : Document.unquoted()) {
            Check.due(left, 1, 0);
        }
        Check.finish("EdgesTest");
    }
}
