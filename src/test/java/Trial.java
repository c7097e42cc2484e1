import java.io.IOException;
import java.nio.file.Files;
import java.nio.file.Path;

/** A test by hand: a new object for each thing that is told, and what it answers. */
abstract class Trial {
    static final int FAR = -1000000000;
    static final int LEAST = Integer.MIN_VALUE;
    static final int GREATEST = Integer.MAX_VALUE;
    private static final Path DOCUMENT = Path.of("../shared/DOC.md");

    final Checks checks = new Checks();
    YamIsland x;
    private final String document;
    private String told;

    Trial() {
        try {
            document = folded(Files.readString(DOCUMENT));
        } catch (IOException e) {
            throw new IllegalStateException("no document at " + DOCUMENT, e);
        }
    }

    private static String folded(String text) {
        return text.replaceAll("\\s+", " ");
    }

    void begin(String what) {
        told = what;
        x = new YamIsland();
    }

    /** Begins the test of a sentence, which has to stand in the document in these words. */
    void sentence(String words) {
        begin("\"" + words + "\"");
        checks.dueTrue("the document says " + told, document.contains(folded(words)));
    }

    void due(String call, long got, long want) {
        checks.due(told + ": " + call, got, want);
    }

    /** How often each of the refusals -1, -2, -3, -4, -6 has been counted. */
    void dueRefusals(int nobody, int other, int state, int below, int room) {
        due("count(11)", x.count(11), nobody);
        due("count(12)", x.count(12), other);
        due("count(13)", x.count(13), state);
        due("count(14)", x.count(14), below);
        due("count(15)", x.count(15), 0);
        due("count(16)", x.count(16), room);
    }

    /** Ways that bring the same in every weather. */
    void steady(int... brought) {
        for (int v : brought) {
            x.way(v, v, v, v);
        }
    }

    void rules(String... texts) {
        for (String text : texts) {
            Checks.rule(x, text);
        }
    }

    /** As many people as there are ways told, all with one rule. */
    void planters(int rule, int... ways) {
        for (int way : ways) {
            x.person(way, rule);
        }
    }
}
