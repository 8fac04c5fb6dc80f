import java.io.IOException;
import java.nio.file.Files;
import java.nio.file.Path;
import java.util.function.Consumer;

/** Runs tests that each name a promise (or the terms) and the sentence that they hold it to. */
final class Sentences {
    private static final Path DOC = Path.of("../shared/DOC.md");

    private final Due due = new Due();
    private final Document document;
    private int count = 0;

    Sentences() throws IOException {
        document = Files.exists(DOC) ? new Document(DOC) : null;
    }

    void say(String title, String words, Consumer<Due> test) {
        count++;
        due.under(title + ": \"" + words + "\"");
        if (document != null) {
            due.holds("the document says so there", document.quote(title, words));
        }
        try {
            test.accept(due);
        } catch (RuntimeException e) {
            due.holds("no call throws, but " + e, false);
        }
    }

    void end(String name) {
        due.under("");
        if (document == null) {
            System.out.println(DOC + " is not here: the tests run, but nothing compares what they quote");
        } else {
            document.unquoted().forEach(words -> due.holds("a test names: " + words, false));
        }
        System.out.println(count + " sentences");
        due.end(name);
    }
}
