import java.io.IOException;
import java.nio.file.Files;
import java.nio.file.Path;

/** Counts and prints the answers that are not as due. */
final class Check {
    private int asked;
    private int wrong;
    private String document = "";
    private String sentence = "";

    void due(String call, long got, long want) {
        asked++;
        if (got != want) {
            wrong++;
            if (wrong <= 40) {
                System.out.println(sentence + call + " answered " + got + ", due is " + want);
            }
        }
    }

    void holds(String what, boolean holds) {
        due(what, holds ? 1 : 0, 1);
    }

    void end() {
        System.out.println(wrong + " of " + asked + " answers are not as due");
        if (wrong != 0 || asked == 0) {
            System.exit(1);
        }
    }

    /** Reads the document, so that the sentences which tests name can be looked up in it. */
    void readDocument(String[] args) throws IOException {
        Path path = Path.of(args.length > 0 ? args[0] : ".", "..", "shared", "DOC.md");
        if (Files.isReadable(path)) {
            document = Files.readString(path);
        } else {
            System.out.println("the document is not at " + path + ": sentences are not looked up");
        }
    }

    /** Names the sentence that the next answers are about; it must stand in the document word for word. */
    void sentence(String words) {
        sentence = "";
        holds("the document says «" + words + "»", document.isEmpty() || document.contains(words));
        sentence = "«" + words + "»: ";
    }

    /** A frame comes, so many behind the time at which it was sent; it must be let in. */
    void come(SpurtClock clock, int n, int head, int pause, int delay) {
        int answer = clock.arrive(n, head, pause, 20 * n + delay);
        holds("frame " + n + " with delay " + delay + " is let in (" + answer + ")", answer >= 0);
    }

    /** Frames 0, 1, .. of one spurt come, each with its delay. */
    SpurtClock withDelays(int... delays) {
        SpurtClock clock = new SpurtClock();
        for (int n = 0; n < delays.length; n++) {
            come(clock, n, 0, 0, delays[n]);
        }
        return clock;
    }

    /** Puts a word on the tape of an object and takes its manner. */
    static int take(SpurtClock clock, String word, int k) {
        clock.wipe();
        type(clock, word);
        return clock.manner(k);
    }

    static SpurtClock with(String word, int k) {
        SpurtClock clock = new SpurtClock();
        take(clock, word, k);
        return clock;
    }

    static void type(SpurtClock clock, String signs) {
        for (char sign : signs.toCharArray()) {
            clock.key(sign);
        }
    }

    /** The whole text of a spurt, put together from its signs; the length is asked once, as calls are few. */
    static String textOf(SpurtClock clock, int k) {
        StringBuilder text = new StringBuilder();
        int length = clock.text(k, -1);
        for (int i = 0; i < length; i++) {
            text.append((char) clock.text(k, i));
        }
        return text.toString();
    }

    void dueText(String call, String got, String want) {
        due(call + " «" + got + "», due «" + want + "»", got.equals(want) ? 1 : 0, 1);
    }
}
