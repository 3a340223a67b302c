import java.io.IOException;
import java.nio.file.Files;
import java.nio.file.Path;
import java.util.Set;
import java.util.TreeSet;
import java.util.function.LongSupplier;

/** Counts and prints the answers that are not as due, under the sentence of the document that asks for them. */
final class Checks {
    private static final Path DOCUMENT = Path.of("../shared/DOC.md");
    private static final int BAD = -2;

    private final Set<Integer> promises = new TreeSet<>();
    private String document = "";
    private String heading = "";
    private int asked = 0;
    private int askedAtHeading = 0;
    private int wrong = 0;

    void due(String call, long got, long want) {
        asked++;
        if (got != want) {
            wrong++;
            System.out.println(heading + call + " answered " + got + ", due is " + want);
        }
    }

    void holds(String what, boolean so) {
        due(what, so ? 1 : 0, 1);
    }

    /** The call is refused with this answer, and nothing but STATUS is changed by it, by one. */
    void refused(HandedSlips x, String call, int answer, LongSupplier asking) {
        long before = x.digest();
        int[] counts = {x.status(0), x.status(1), x.status(2)};
        due(call, asking.getAsLong(), answer);
        counts[BAD - answer]++;
        due(call + ", then digest", x.digest(), before);
        for (int what = 0; what < 3; what++) {
            due(call + ", then status " + what, x.status(what), counts[what]);
        }
    }

    void bad(HandedSlips x, String call, LongSupplier asking) {
        refused(x, call, BAD, asking);
    }

    /** The call has this answer, which is no refusal, and changes nothing. */
    void answers(HandedSlips x, String call, long answer, LongSupplier asking) {
        long before = x.digest();
        int refusals = x.status(0) + x.status(1) + x.status(2);
        due(call, asking.getAsLong(), answer);
        due(call + ", then digest", x.digest(), before);
        due(call + ", then refusals", x.status(0) + x.status(1) + x.status(2), refusals);
    }

    /** The checks behind this one are of these words of the document, as a promise uses them. */
    void sentence(int promise, String words) {
        closeSentence();
        holds("promise " + promise + ": the document says '" + words + "'", documentText().contains(words));
        promises.add(promise);
        heading = "promise " + promise + ", '" + words + "': ";
        askedAtHeading = asked;
    }

    private void closeSentence() {
        holds("it has a check of its own", heading.isEmpty() || asked > askedAtHeading);
        heading = "";
    }

    /** Each of these promises has had a sentence. */
    void covers(int first, int last) {
        closeSentence();
        for (int promise = first; promise <= last; promise++) {
            holds("promise " + promise + " has a test", promises.contains(promise));
        }
    }

    private String documentText() {
        if (document.isEmpty()) {
            try {
                document = Files.readString(DOCUMENT).replaceAll("\\s+", " ");
            } catch (IOException e) {
                throw new IllegalStateException("there is no " + DOCUMENT, e);
            }
        }
        return document;
    }

    void end() {
        System.out.println(asked + " answers, " + wrong + " not as due");
        if (wrong != 0) {
            System.exit(1);
        }
    }
}
