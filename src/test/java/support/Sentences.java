package support;

import java.io.IOException;
import java.nio.file.Files;
import java.nio.file.Path;
import java.util.function.Supplier;

/** Sentences of the document, each held by lines of calls (see Script) on a new object. Runs in the project's folder. */
public final class Sentences {
    private static final Path DOCUMENT = Path.of("../shared/DOC.md");

    private final Supplier<Object> maker;
    private final String document;
    private final boolean[] held;
    private int many;
    private int wrong;

    public Sentences(Supplier<Object> maker) throws IOException {
        this.maker = maker;
        document = Files.readString(DOCUMENT).replaceAll("\\s+", " ");
        held = new boolean[document.length()];
    }

    /** The sentence must stand in the document, letter by letter, and each line must be answered as it says. */
    public void holds(String sentence, String... lines) {
        many++;
        int first = document.indexOf(sentence);
        if (first < 0) {
            wrong++;
            System.out.println("not in the document: " + sentence);
        }
        for (int i = 0; i < sentence.length() && first >= 0; i++) {
            held[first + i] = true;
        }
        wrong += new Script(maker.get(), "'" + sentence + "'").run(String.join("\n", lines)).wrong();
    }

    public int many() {
        return many;
    }

    public int wrong() {
        return wrong;
    }

    /** The document without what is held. */
    public String left() {
        StringBuilder left = new StringBuilder();
        for (int i = 0; i < held.length; i++) {
            if (!held[i]) {
                left.append(document.charAt(i));
            } else if (i == 0 || !held[i - 1]) {
                left.append(" .. ");
            }
        }
        return left.toString().replaceAll("( \\.\\. \\W*)+", " .. ").replaceAll("## ", "\n");
    }
}
