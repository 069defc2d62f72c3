import java.lang.management.ManagementFactory;

/** The greatest texts: all calls end soon, and what they make fits the room that a run has. */
public final class LimitTest {
    private static final Check CHECK = new Check();
    private static final long MOST_BYTES = 6_000_000;

    private static final String GROUNDS = "ground a 3 3;ground b 5 3;ground c 7 3;ground d 9 3;";
    private static final String DEALS = "oath o a gives b;oath n b gives c;oath l c gives a+d;"
            + "bargain p a gives b or c;bargain q b gives d or a;bargain r nothing gives a or d;";

    private static long allocated() {
        com.sun.management.ThreadMXBean bean = (com.sun.management.ThreadMXBean) ManagementFactory.getThreadMXBean();
        return bean.getThreadAllocatedBytes(Thread.currentThread().getId());
    }

    private static String joined(String part, String sign, int n) {
        return part + (sign + part).repeat(n - 1);
    }

    private static void all(GroundCourt court, int calls) {
        int asked = 0;
        for (int i = 0; asked < calls; i++) {
            int claim = i % Math.max(1, court.count(3));
            int root = court.pointOf(claim);
            court.oath(i % 3, i % 2 == 0);
            court.put(i % 4, i / 2 % 4);
            court.needed(claim, 0);
            court.can(claim);
            court.stocks(claim);
            court.steps(claim);
            court.step(claim, 40, 0);
            court.moves(root, 255, 7);
            court.move(root, 255, 7, 2047, 1);
            court.lack(claim, 0);
            court.spare(claim, 1);
            court.together(0);
            court.part(claim, 0);
            court.sit(claim);
            court.now(0);
            court.go(0);
            court.lots(claim, i);
            court.depth(root, 255, 7);
            court.hold(0);
            court.restore(0);
            asked += 23;
        }
    }

    private static void run(String name, String claims) {
        allocated();
        long before = allocated();
        long start = System.nanoTime();
        GroundCourt court = new GroundCourt();
        Check.feed(court, GROUNDS + DEALS + claims);
        CHECK.same("read of " + name, court.read(), 0);
        all(court, 400);
        long took = (System.nanoTime() - start) / 1_000_000;
        long made = allocated() - before;
        System.out.println("LimitTest: " + name + ": " + took + " ms, " + made + " bytes");
        CHECK.same(name + " ends soon", took < 60_000, true);
        CHECK.same(name + " makes little", made < MOST_BYTES, true);
    }

    public static void main(String[] args) {
        run("splits of rest", "claim k 1=" + joined("rest", "*", 12) + ";claim m 1=rest;");
        run("splits of names", "claim k 1=" + joined("a*b", "*", 3) + "*" + joined("c*d", "*", 3) + ";claim m 1=rest;");
        run("choices", "claim k 1=" + joined("(a or b)", "*", 6) + ";claim m 1=d;");
        StringBuilder six = new StringBuilder();
        for (char name = 's'; name < 's' + 6; name++) {
            six.append("claim ").append(name).append(" 9=a*rest;");
        }
        run("many claims", six.toString());
        run("nesting", "claim k 1=ever [a](ever [b](a any b*c or d) any rest)*rest any [a+b] rest or ever rest*rest;");
        CHECK.finish("LimitTest");
    }
}
