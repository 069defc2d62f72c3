/** How GroundCourt is used. README.md quotes this file and what it prints. */
public final class Example {
    /** Twenty bytes a call, the highest byte of each int first; the blanks that fill up are taken back. */
    static void feed(GroundCourt court, String text) {
        for (int from = 0; from < text.length(); from += 20) {
            int[] ints = new int[5];
            for (int i = 0; i < 20; i++) {
                int next = from + i < text.length() ? text.charAt(from + i) : ' ';
                ints[i / 4] = ints[i / 4] << 8 | next & 255;
            }
            court.feed(ints[0], ints[1], ints[2], ints[3], ints[4]);
        }
        court.back((20 - text.length() % 20) % 20);
    }

    public static void main(String[] args) {
        GroundCourt court = new GroundCourt();
        feed(court, "ground a 5 2; ground b 7 1; oath swap a gives b; claim k 10 = a * b * b;");
        System.out.println("read: " + court.read());
        System.out.println("DEPTH: " + court.can(0));
        for (int i = 0; i < court.steps(0); i++) {
            System.out.println("step " + court.step(0, i, 0) + " at POINT " + court.step(0, i, 1)
                    + " with STOCK " + court.step(0, i, 2));
        }

        feed(court, "split a+a () split a () is use swap is is");
        System.out.println("judge: " + court.judge(0) + ", steps: " + court.passed(0) + ", DEPTH: " + court.passed(1));
        feed(court, "split a () none");
        System.out.println("judge: " + court.judge(0) + " at byte " + court.place());

        court.put(1, 0);
        System.out.println("without b: " + court.can(0) + ", LACK: " + court.lack(0, 0));

        feed(court, "ground a 500 1;");
        System.out.println("read: " + court.read() + " at byte " + court.place());
        feed(court, "ground a 5 1; ground b 7 0; bargain deal a gives b or a+b; claim m 1 = b or a * b;");
        System.out.println("read: " + court.read());
        System.out.println("sit: " + court.sit(0));
        for (int n = 0; n < 100 && court.now(0) >= 0; n++) {
            System.out.println("step " + court.now(0) + ", still to be shown: " + court.go(1));
        }
    }
}
