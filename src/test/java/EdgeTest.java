/** Every sentence of the document that names a boundary case: each promise and each term has checks of its own. */
public final class EdgeTest {
    private static final String[] TERMS = {
        "PEOPLE", "BRIDES", "TIES", "A TEXT", "TOKENS", "LINE", "EXPR", "VALUES", "FAULTS", "WEIGHT", "A DAY", "ACTS",
        "LEADER", "THEN", "LED", "THE DOG", "RANK", "TO TRAIN", "INSTEAD", "BEST DAY", "A CHOICE", "LOVED", "A TUG",
        "DECISIVE", "STEPS", "SEEN", "HIDDEN", "WEIGH NEXT", "A GAME", "YEARS by a seed", "STATUS", "AN IMAGE",
        "512 calls",
    };

    private EdgeTest() {
    }

    public static void main(String[] args) {
        EdgeTexts.all();
        EdgeActs.all();
        EdgeQuestions.all();
        EdgeSeen.all();
        for (int promise = 1; promise <= 39; promise++) {
            Check.due("promise " + promise + " has checks", Edge.checksOf("promise " + promise) > 0, true);
        }
        for (String term : TERMS) {
            Check.due("term " + term + " has checks", Edge.checksOf("term " + term) > 0, true);
        }
        Check.end("EdgeTest");
    }
}
