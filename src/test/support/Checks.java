import java.io.IOException;
import java.io.UncheckedIOException;
import java.nio.file.Files;
import java.nio.file.Path;

/** Counts the answers that are not as due, for one test, under the sentences they are due by. */
final class Checks {
    private static final int MOST_SHOWN = 40;
    private static final long MOST_MILLISECONDS = 300000L;

    private final String document;
    private String sentence = "";
    private int sentences = 0;
    private int wrong = 0;
    private int asked = 0;

    Checks() {
        try {
            document = plain(Files.readString(Path.of("../shared/DOC.md")));
        } catch (IOException e) {
            throw new UncheckedIOException(e);
        }
        Thread guard = new Thread(Checks::stopWhatDoesNotEnd);
        guard.setDaemon(true);
        guard.start();
    }

    /** A call that never ends must fail its test, not hold up all of them. */
    private static void stopWhatDoesNotEnd() {
        try {
            Thread.sleep(MOST_MILLISECONDS);
        } catch (InterruptedException e) {
            return;
        }
        System.out.println("a call does not end");
        Runtime.getRuntime().halt(1);
    }

    private static String plain(String text) {
        return text.replaceAll("\\s+", " ");
    }

    /** The answers that follow are due by these words, which must stand in the document so. */
    void by(String words) {
        sentence = words;
        sentences++;
        due("the document says so", document.contains(plain(words)) ? 1 : 0, 1);
    }

    void due(String call, long got, long want) {
        asked++;
        if (got != want) {
            wrong++;
            if (wrong <= MOST_SHOWN) {
                String where = sentence.isEmpty() ? "" : "by '" + sentence + "': ";
                System.out.println(where + call + " answered " + got + ", due is " + want);
            }
        }
    }

    /** How many REFUSALS -1 to -7 there were. */
    void refused(Stone x, int... counts) {
        for (int i = 0; i < counts.length; i++) {
            due("status(" + (11 + i) + ")", x.status(11 + i), counts[i]);
        }
    }

    void end(String name) {
        String by = sentences == 0 ? "" : sentences + " sentences, ";
        System.out.println(name + ": " + by + asked + " answers, " + wrong + " not as due");
        if (wrong != 0) {
            System.exit(1);
        }
    }
}
