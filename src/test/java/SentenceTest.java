import java.io.IOException;
import support.AskedSentences;
import support.PromiseSentences;
import support.Sentences;
import support.TextSentences;
import support.WorkSentences;

/**
 * Each sentence of the document that names an edge, by lines of calls of its own: the least and the
 * greatest that is taken, what lies next to these, empty, full, wrapping, refused.
 * "java SentenceTest left" prints what of the document is not held by any.
 */
public final class SentenceTest {
    private SentenceTest() { }

    public static void main(String[] args) throws IOException {
        Sentences document = new Sentences(UnlikePens::new);
        TextSentences.hold(document);
        WorkSentences.hold(document);
        AskedSentences.hold(document);
        PromiseSentences.hold(document);
        if (args.length > 0) {
            System.out.println(document.left());
        }
        System.out.println("SentenceTest: " + document.many() + " sentences, "
            + (document.wrong() == 0 ? "all hold" : document.wrong() + " lines are wrong"));
        System.exit(document.wrong() == 0 ? 0 : 1);
    }
}
