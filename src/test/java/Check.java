import java.io.IOException;
import java.io.UncheckedIOException;
import java.nio.charset.StandardCharsets;
import java.nio.file.Files;
import java.nio.file.Path;

/** What the tests share: counting answers that are not as due, and feeding a text. */
final class Check {
    private static final int SHOWN_MOST = 40;
    static final String DOCUMENT = readDocument();

    private final String name;
    private int wrong;
    private int asked;
    private String sentence = "";
    private int sentences;
    private int askedBefore;

    Check(String name) {
        this.name = name;
    }

    /**
     * What follows is due by these words of the document. They must stand there, so that a test is not left behind
     * when the document changes, and something must be asked by them.
     */
    void by(String words) {
        endSentence();
        sentence = words;
        sentences++;
        askedBefore = asked;
        if (!DOCUMENT.contains(words)) {
            tellWrong("no such words in the document: " + words);
        }
    }

    private void endSentence() {
        if (!sentence.isEmpty() && asked == askedBefore) {
            tellWrong("nothing was asked by: " + sentence);
        }
    }

    private static String readDocument() {
        try {
            return Files.readString(Path.of("../shared/DOC.md"));
        } catch (IOException e) {
            throw new UncheckedIOException(e);
        }
    }

    private void tellWrong(String what) {
        wrong++;
        if (wrong <= SHOWN_MOST) {
            System.out.println(name + ": " + what);
        }
    }

    void due(String call, long got, long want) {
        due(call, Long.toString(got), Long.toString(want));
    }

    void due(String call, String got, String want) {
        asked++;
        if (!got.equals(want)) {
            String why = sentence.isEmpty() ? "" : " by '" + sentence + "'";
            tellWrong(call + " answered " + got + ", due is " + want + why);
        }
    }

    void yes(String call, boolean got) {
        due(call, got ? 1 : 0, 1);
    }

    void no(String call, boolean got) {
        due(call, got ? 1 : 0, 0);
    }

    int wrongs() {
        return wrong;
    }

    void close() {
        endSentence();
        String by = sentences == 0 ? "" : " by " + sentences + " sentences";
        System.out.println(name + ": " + asked + " answers" + by + ", " + wrong + " not as due");
        if (wrong != 0 || asked == 0) {
            System.exit(1);
        }
    }

    /** The tape holds the text behind what it held; it must fit with the blanks that fill its last twenty bytes. */
    static void feed(SoupCargo cargo, String text) {
        byte[] bytes = text.getBytes(StandardCharsets.ISO_8859_1);
        int had = 0;
        for (int from = 0; from < bytes.length; from += 20) {
            int[] five = fiveFrom(bytes, from);
            int has = cargo.feed(five[0], five[1], five[2], five[3], five[4]);
            had = has - 20 - from;
        }
        cargo.end(had + bytes.length);
    }

    static int[] fiveFrom(byte[] bytes, int from) {
        int[] five = new int[5];
        for (int i = 0; i < 20; i++) {
            int one = from + i < bytes.length ? bytes[from + i] & 255 : 32;
            five[i / 4] = five[i / 4] << 8 | one;
        }
        return five;
    }

    static int laws(SoupCargo cargo, String text) {
        feed(cargo, text);
        return cargo.laws();
    }

    static int code(SoupCargo cargo, String text) {
        feed(cargo, text);
        return cargo.code();
    }

    void lawFault(String text, int fault, int where) {
        SoupCargo cargo = new SoupCargo();
        due("laws of '" + text + "'", laws(cargo, text), SoupCargo.NONE);
        due("fault(0) of '" + text + "'", cargo.fault(0), fault);
        due("fault(1) of '" + text + "'", cargo.fault(1), where);
    }

    void codeFault(String text, int fault, int where) {
        SoupCargo cargo = new SoupCargo();
        due("code of '" + text + "'", code(cargo, text), SoupCargo.NONE);
        due("fault(0) of '" + text + "'", cargo.fault(0), fault);
        due("fault(1) of '" + text + "'", cargo.fault(1), where);
    }
}
