import java.io.IOException;
import java.nio.charset.StandardCharsets;
import java.nio.file.Files;
import java.nio.file.Path;

/** What the tests share: feeding a text, counting answers that are not as due. */
final class Check {
    private static final Path DOCUMENT = Path.of("../shared/DOC.md");

    /** Stands in a text ahead of the byte where the FAULT is due; it is taken out of the text. */
    private static final char MARK = '@';

    private int wrong;
    private int asked;
    private int sentences;
    private String sentence = "";
    private String document = "";

    /** Puts a text behind the tape, the blanks that fill up the last twenty bytes taken back. */
    static void feed(GroundCourt court, String text) {
        byte[] bytes = text.getBytes(StandardCharsets.ISO_8859_1);
        for (int from = 0; from < bytes.length; from += 20) {
            int[] words = new int[5];
            for (int i = 0; i < 20; i++) {
                int next = from + i < bytes.length ? bytes[from + i] & 255 : 32;
                words[i / 4] |= next << (24 - 8 * (i % 4));
            }
            court.feed(words[0], words[1], words[2], words[3], words[4]);
        }
        int over = (20 - bytes.length % 20) % 20;
        court.back(over);
    }

    static GroundCourt told(String text) {
        GroundCourt court = new GroundCourt();
        feed(court, text);
        int fault = court.read();
        if (fault != 0) {
            throw new IllegalStateException("fault " + fault + " at " + court.place() + " in " + text);
        }
        return court;
    }

    /** What is asked from here on is about this sentence of the document, which must stand there as it is. */
    void about(String words) {
        sentences++;
        sentence = oneLine(words);
        if (document.isEmpty()) {
            document = readDocument();
        }
        same("the document", document.contains(sentence), true);
    }

    private static String readDocument() {
        try {
            return oneLine(Files.readString(DOCUMENT));
        } catch (IOException e) {
            throw new IllegalStateException(e);
        }
    }

    private static String oneLine(String words) {
        return words.replaceAll("\\s+", " ").trim();
    }

    void same(String what, long got, long due) {
        asked++;
        if (got != due) {
            wrong++;
            System.out.println(what + " answered " + got + ", due is " + due + told());
        }
    }

    void same(String what, String got, String due) {
        asked++;
        if (!got.equals(due)) {
            wrong++;
            System.out.println(what + " answered " + got + ", due is " + due + told());
        }
    }

    private String told() {
        return sentence.isEmpty() ? "" : " (" + sentence + ")";
    }

    void same(String what, boolean got, boolean due) {
        same(what, got ? 1 : 0, due ? 1 : 0);
    }

    /** A text that is read on a new object, with the FAULT and the place that are due. */
    void text(String text, int fault, int place) {
        GroundCourt court = new GroundCourt();
        feed(court, text);
        same("read of <" + text + ">", court.read(), fault);
        same("place in <" + text + ">", court.place(), place);
        same("tape behind <" + text + ">", court.count(8), 0);
    }

    /** A text without a FAULT. */
    void fine(String text) {
        text(text, 0, GroundCourt.NONE);
    }

    /** A text with a FAULT where the mark stands. */
    void fault(int fault, String marked) {
        text(unmarked(marked), fault, marked.indexOf(MARK));
    }

    /** A SHOWING that is PASSED. */
    void passes(GroundCourt court, String text) {
        showing(court, 0, text, 0, GroundCourt.NONE);
    }

    /** A SHOWING of CLAIM 0 that is wrong where the mark stands. */
    void fails(GroundCourt court, int fault, String marked) {
        showing(court, 0, unmarked(marked), fault, marked.indexOf(MARK));
    }

    private static String unmarked(String marked) {
        int mark = marked.indexOf(MARK);
        if (mark < 0) {
            throw new IllegalStateException("no mark in " + marked);
        }
        return marked.substring(0, mark) + marked.substring(mark + 1);
    }

    /** A SHOWING that is judged, with the FAULT and the place that are due. */
    void showing(GroundCourt court, int claim, String text, int fault, int place) {
        feed(court, text);
        same("judge of <" + text + ">", court.judge(claim), fault);
        same("place in <" + text + ">", court.place(), place);
        same("tape behind <" + text + ">", court.count(8), 0);
    }

    void finish(String name) {
        String of = sentences == 0 ? "" : sentences + " sentences, ";
        System.out.println(name + ": " + of + asked + " answers, " + wrong + " not as due");
        if (wrong != 0) {
            System.exit(1);
        }
    }
}
