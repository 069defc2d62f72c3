import java.nio.charset.StandardCharsets;

/** What the tests share: feeding a text, counting answers that are not as due. */
final class Check {
    private int wrong;
    private int asked;

    /** Puts a text behind the tape, the blanks that fill up the last twenty bytes taken back. */
    static void feed(GroundCourt court, String text) {
        byte[] bytes = text.getBytes(StandardCharsets.ISO_8859_1);
        for (int from = 0; from < bytes.length; from += 20) {
            int[] words = new int[5];
            for (int i = 0; i < 20; i++) {
                int next = from + i < bytes.length ? bytes[from + i] & 255 : 32;
                words[i / 4] |= next << (24 - 8 * (i % 4));
            }
            court.feed(words[0], words[1], words[2], words[3], words[4]);
        }
        int over = (20 - bytes.length % 20) % 20;
        court.back(over);
    }

    static GroundCourt told(String text) {
        GroundCourt court = new GroundCourt();
        feed(court, text);
        int fault = court.read();
        if (fault != 0) {
            throw new IllegalStateException("fault " + fault + " at " + court.place() + " in " + text);
        }
        return court;
    }

    void same(String what, long got, long due) {
        asked++;
        if (got != due) {
            wrong++;
            System.out.println(what + " answered " + got + ", due is " + due);
        }
    }

    void same(String what, boolean got, boolean due) {
        same(what, got ? 1 : 0, due ? 1 : 0);
    }

    /** A text that is read on a new object, with the FAULT and the place that are due. */
    void text(String text, int fault, int place) {
        GroundCourt court = new GroundCourt();
        feed(court, text);
        same("read of <" + text + ">", court.read(), fault);
        same("place in <" + text + ">", court.place(), place);
        same("tape behind <" + text + ">", court.count(8), 0);
    }

    /** A SHOWING that is judged, with the FAULT and the place that are due. */
    void showing(GroundCourt court, int claim, String text, int fault, int place) {
        feed(court, text);
        same("judge of <" + text + ">", court.judge(claim), fault);
        same("place in <" + text + ">", court.place(), place);
        same("tape behind <" + text + ">", court.count(8), 0);
    }

    void finish(String name) {
        System.out.println(name + ": " + asked + " answers, " + wrong + " not as due");
        if (wrong != 0) {
            System.exit(1);
        }
    }
}
