import java.io.IOException;
import java.util.ArrayList;
import java.util.List;

/** Tests of which each names a sentence of the document: its heading, its words, and the steps that hold it. */
final class Sentences {
    private final Checks checks = new Checks();
    private final List<String[]> named = new ArrayList<>();
    private String sentence = "";
    private int steps;

    /** Begins the test of a sentence. */
    void says(String heading, String words) {
        closeLast();
        sentence = heading + ", '" + words + "': ";
        named.add(new String[] {heading, words});
    }

    void due(String step, long got, long want) {
        steps++;
        checks.due(sentence + step, got, want);
    }

    void dueAll(String step, int[] got, int... want) {
        steps++;
        checks.dueAll(sentence + step, got, want);
    }

    /** A call that is refused, with the digest from before it. */
    void refused(String step, FirstPancake x, long before, int got, int want) {
        due(step, got, want);
        due(step + " changes nothing", x.digest(), before);
    }

    /** Ends all of them: each had a step, and its words stand in the document. */
    void end() throws IOException {
        closeLast();
        if (Document.isHere()) {
            holdAgainstTheDocument();
        } else {
            System.out.println("../shared/DOC.md is not here: the words of the sentences are not looked up");
        }
        System.out.println(named.size() + " sentences");
        checks.end();
    }

    private void closeLast() {
        if (!named.isEmpty() && steps == 0) {
            checks.due(sentence + "has a step", 0, 1);
        }
        steps = 0;
    }

    private void holdAgainstTheDocument() throws IOException {
        Document document = new Document();
        checks.due("promises", document.promises(), 30);
        for (String[] one : named) {
            checks.due(one[0] + " says '" + one[1] + "'", document.name(one[0], one[1]) ? 1 : 0, 1);
        }
        String rest = document.unnamed();
        checks.due("words that no test names:\n" + rest, rest.isEmpty() ? 0 : 1, 0);
    }
}
