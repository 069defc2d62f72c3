/** Promises 5 to 7: SHOWINGS told as texts, the first wrong step, IDLE steps. */
public final class ShowingTest {
    private static final Check CHECK = new Check();

    /** STOCK: a a b. */
    private static final String LAW = "ground a 5 2; ground b 7 1; ground left 1 0;"
            + "oath o a gives b; oath back b gives a; oath use nothing gives nothing;"
            + "bargain p a gives b or a+a; bargain q b gives nothing; bargain each b gives left;";

    private static GroundCourt court(String claim) {
        return Check.told(LAW + "claim k 1 = " + claim + ";");
    }

    private static void passed(GroundCourt court, int steps, int depth, int idle) {
        CHECK.same("passed(0)", court.passed(0), steps);
        CHECK.same("passed(1)", court.passed(1), depth);
        CHECK.same("passed(2)", court.passed(2), idle);
        CHECK.same("passed(3)", court.passed(3), -1);
        CHECK.same("passed(-1)", court.passed(-1), -1);
    }

    private static void noSuchClaim() {
        GroundCourt court = court("rest");
        Check.feed(court, "rest $");
        CHECK.same("judge(0)", court.judge(0), 1);
        Check.feed(court, "rest");
        CHECK.same("judge(1)", court.judge(1), -1);
        CHECK.same("judge(-1)", court.judge(-1), -1);
        CHECK.same("the tape stays", court.count(8), 4);
        CHECK.same("passed", court.passed(0), -2);
        CHECK.same("judge(0)", court.judge(0), 0);
        CHECK.same("place", court.place(), -1);
        CHECK.same("the tape is empty", court.count(8), 0);
        passed(court, 1, 1, 0);
        CHECK.showing(court, 0, "none", 6, 0);
        passed(court, 1, 1, 0);
    }

    private static void leaves() {
        CHECK.showing(court("rest"), 0, "rest", 0, -1);
        CHECK.showing(court("rest"), 0, " rest\n", 0, -1);
        CHECK.showing(court("rest"), 0, "rest rest", 1, 5);
        CHECK.showing(court("rest"), 0, "", 1, 0);
        CHECK.showing(court("rest"), 0, "  ", 1, 2);
        CHECK.showing(court("rest"), 0, "any", 1, 0);
        CHECK.showing(court("rest"), 0, "5", 1, 0);
        CHECK.showing(court("rest"), 0, "$", 1, 0);
        CHECK.showing(court("rest"), 0, "a", 1, 0);
        CHECK.showing(court("rest"), 0, "restrestr", 1, 0);
        CHECK.showing(court("rest"), 0, "is", 6, 0);
        CHECK.showing(court("rest"), 0, "is $", 6, 0);
        CHECK.showing(court("nothing"), 0, "none", 7, 0);
        CHECK.showing(court("a"), 0, "is", 7, 0);
        GroundCourt one = court("a");
        one.put(0, 1);
        CHECK.showing(one, 0, "is", 7, 0);
        one.put(1, 0);
        CHECK.showing(one, 0, "is", 0, -1);
        one.put(0, 0);
        CHECK.showing(one, 0, "is", 7, 0);
        one.put(1, 1);
        CHECK.showing(one, 0, "is", 7, 0);
        GroundCourt none = court("nothing");
        none.put(0, 0);
        none.put(1, 0);
        CHECK.showing(none, 0, "none", 0, -1);
        CHECK.showing(none, 0, "rest", 6, 0);
    }

    private static void ownKinds() {
        CHECK.showing(court("rest or a"), 0, "left rest", 0, -1);
        CHECK.showing(court("rest or a"), 0, "right is", 7, 6);
        CHECK.showing(court("rest or a"), 0, "right rest", 6, 6);
        CHECK.showing(court("rest or a"), 0, "left", 1, 4);
        CHECK.showing(court("rest or a"), 0, "each rest is", 6, 0);
        CHECK.showing(court("rest any rest"), 0, "left rest", 6, 0);
        CHECK.showing(court("rest any rest"), 0, "each rest", 1, 9);
        CHECK.showing(court("rest any rest"), 0, "each rest rest", 0, -1);
        CHECK.showing(court("rest any rest"), 0, "each rest rest rest", 1, 15);
        CHECK.showing(court("ever rest"), 0, "ever rest", 7, 0);
        CHECK.showing(court("ever rest"), 0, "given rest", 6, 0);
        CHECK.showing(court("[a] rest"), 0, "given rest", 0, -1);
        CHECK.showing(court("[a+a] rest"), 0, "given rest", 7, 0);
        CHECK.showing(court("[left+left+left] rest"), 0, "given rest", 0, -1);
        CHECK.showing(court("[a] rest"), 0, "ever rest", 6, 0);
        GroundCourt empty = court("ever (rest or ever (nothing any rest))");
        empty.put(0, 0);
        empty.put(1, 0);
        CHECK.showing(empty, 0, "ever right ever each none rest", 0, -1);
        passed(empty, 6, 5, 0);
        CHECK.showing(empty, 0, "ever right ever each none use q rest", 8, 26);
        CHECK.showing(empty, 0, "use each ever left rest", 8, 0);
    }

    private static void splits() {
        String claim = "a * (a * b)";
        CHECK.showing(court(claim), 0, "split a () is split a () is is", 0, -1);
        CHECK.showing(court(claim), 0, "split a+a () is split a () is is", 7, 13);
        CHECK.showing(court(claim), 0, "split a () is split a+b () is is", 7, 27);
        CHECK.showing(court(claim), 0, "split a () is split b+b () is is", 7, 14);
        CHECK.showing(court(claim), 0, "split a+a+a () is", 7, 0);
        CHECK.showing(court(claim), 0, "split a+a+a+a () is", 5, 12);
        CHECK.showing(court(claim), 0, "split a+b+a+b+a+b+b () is", 5, 18);
        CHECK.showing(court(claim), 0, "split left () is", 7, 0);
        CHECK.showing(court(claim), 0, "split o () is", 4, 6);
        CHECK.showing(court(claim), 0, "split a+zz () is", 4, 8);
        CHECK.showing(court(claim), 0, "split () is", 1, 6);
        CHECK.showing(court(claim), 0, "split nothing+a () is", 1, 13);
        CHECK.showing(court(claim), 0, "split a is", 1, 8);
        CHECK.showing(court(claim), 0, "split a (", 1, 9);
        CHECK.showing(court(claim), 0, "split a (p,q) is", 1, 10);
        CHECK.showing(court(claim), 0, "split a (a) is", 4, 9);
        CHECK.showing(court(claim), 0, "split a (p k) is", 4, 11);
        CHECK.showing(court(claim), 0, "split a (p p) is", 8, 11);
        CHECK.showing(court(claim), 0, "split left (p q p $", 8, 16);
        CHECK.showing(court(claim), 0, "split left (p q $", 1, 16);
        CHECK.showing(court(claim), 0, "split left (p q )$", 7, 0);
        CHECK.showing(court(claim), 0, "split a (p q each) is split a (each) is is", 8, 31);
        CHECK.showing(court(claim), 0, "split a (p q) is split a (each) is is", 0, -1);
        CHECK.showing(court(claim), 0, "split a (p q) is split a (q) is is", 8, 26);
        GroundCourt made = court(claim);
        made.bargain(0, false);
        CHECK.showing(made, 0, "split a (p) is", 8, 9);
        CHECK.showing(court("rest * rest"), 0, "split nothing () rest rest", 0, -1);
        CHECK.showing(court("rest * rest"), 0, "split a+a+b (each q p) rest rest", 0, -1);
        CHECK.showing(court("rest or rest"), 0, "split zz () rest rest", 6, 0);
    }

    private static void namesThatAreWordsOfSteps() {
        GroundCourt court = court("rest * rest");
        court.put(2, 2);
        CHECK.showing(court, 0, "split left+left (each) use use rest use q rest", 0, -1);
        passed(court, 5, 3, 1);
        CHECK.showing(court, 0, "use left split a () rest rest", 4, 4);
        CHECK.showing(court, 0, "use rest split a () rest rest", 1, 4);
        CHECK.showing(court, 0, "use ever split a () rest rest", 1, 4);
        CHECK.showing(court, 0, "use nothing split a () rest rest", 1, 4);
        CHECK.showing(court, 0, "use is split a () rest rest", 4, 4);
        CHECK.showing(court, 0, "split right () rest rest", 4, 6);
    }

    private static void uses() {
        CHECK.showing(court("rest"), 0, "use o rest", 0, -1);
        CHECK.showing(court("rest"), 0, "use o use o use o rest", 8, 12);
        CHECK.showing(court("rest"), 0, "use back use back rest", 8, 9);
        CHECK.showing(court("rest"), 0, "use zz rest", 4, 4);
        CHECK.showing(court("rest"), 0, "use a rest", 4, 4);
        CHECK.showing(court("rest"), 0, "use k rest", 4, 4);
        CHECK.showing(court("rest"), 0, "use ( rest", 1, 4);
        CHECK.showing(court("rest"), 0, "use", 1, 3);
        CHECK.showing(court("rest"), 0, "use o", 1, 5);
        CHECK.showing(court("rest"), 0, "use o rest rest", 1, 11);
        GroundCourt off = court("rest");
        off.oath(0, false);
        CHECK.showing(off, 0, "use o rest", 8, 0);
        CHECK.showing(off, 0, "use back rest", 0, -1);
        GroundCourt full = court("rest");
        full.put(1, 3);
        CHECK.showing(full, 0, "use o rest", 8, 0);
        CHECK.showing(full, 0, "use use rest", 0, -1);
        CHECK.showing(full, 0, "use p rest rest", 8, 0);
        CHECK.showing(full, 0, "use q use p rest rest", 0, -1);
        GroundCourt threeOfA = court("rest");
        threeOfA.put(0, 3);
        threeOfA.put(1, 0);
        CHECK.showing(threeOfA, 0, "use p rest rest", 8, 0);
        CHECK.showing(court("rest"), 0, "use p rest rest", 0, -1);
        CHECK.showing(court("rest"), 0, "use p rest", 1, 10);
        CHECK.showing(court("rest"), 0, "use p use p rest rest rest", 8, 6);
        CHECK.showing(court("rest"), 0, "use p rest use p rest rest", 8, 11);
        CHECK.showing(court("rest"), 0, "use p use q rest use q rest", 0, -1);
        CHECK.showing(court("rest"), 0, "use q rest rest", 1, 11);
        GroundCourt made = court("rest");
        made.bargain(1, false);
        CHECK.showing(made, 0, "use q rest", 8, 0);
        made.bargain(1, true);
        CHECK.showing(made, 0, "use q rest", 0, -1);
        made.put(1, 0);
        CHECK.showing(made, 0, "use q rest", 8, 0);
        GroundCourt both = court("a or b");
        both.put(0, 1);
        both.put(1, 0);
        CHECK.showing(both, 0, "use o right is", 0, -1);
        CHECK.showing(both, 0, "left use o is", 7, 11);
        CHECK.showing(both, 0, "right use o is", 0, -1);
        CHECK.showing(both, 0, "use p right is use o left is", 7, 26);
    }

    private static String row(String word, int n) {
        return (word + " ").repeat(n);
    }

    private static void levels() {
        CHECK.showing(court("rest"), 0, row("use use", 59) + "rest", 0, -1);
        CHECK.showing(court("rest"), 0, row("use use", 60) + "rest", 2, 480);
        CHECK.showing(court("rest"), 0, row("use use", 60) + "is", 2, 480);
        CHECK.showing(court("rest"), 0, row("use use", 60) + "use zz", 2, 480);
        CHECK.showing(court("rest"), 0, row("use use", 60) + "zz", 1, 480);
        CHECK.showing(court("rest"), 0, row("use use", 60), 1, 480);
        CHECK.showing(court("rest any rest"), 0, "each " + row("use use", 58) + "rest " + row("use use", 59) + "rest",
                2, 5 + 8 * 58 + 5 + 8 * 59);
        CHECK.showing(court("rest any rest"), 0, "each " + row("use use", 58) + "rest " + row("use use", 58) + "rest",
                0, -1);
    }

    /** Four leaves, each with so many IDLE steps ahead of it: 2 TOKENS each, 7 beside these. */
    private static String manyTokens(int one, int two, int three, int four) {
        return "each each " + row("use use", one) + "rest " + row("use use", two) + "rest each " + row("use use", three)
                + "rest " + row("use use", four) + "rest";
    }

    private static void tokens() {
        String four = "(rest any rest) any (rest any rest)";
        String of399 = manyTokens(49, 49, 49, 49);
        CHECK.showing(court(four), 0, of399, 0, -1);
        CHECK.showing(court(four), 0, of399 + " rest", 1, of399.length() + 1);
        String of401 = manyTokens(49, 49, 49, 50);
        CHECK.showing(court(four), 0, of401, 2, of401.length() - 4);
        String wrongKind = of401.substring(0, of401.length() - 4);
        CHECK.showing(court(four), 0, wrongKind + "is", 2, wrongKind.length());
        CHECK.showing(court(four), 0, wrongKind + "(", 1, wrongKind.length());
        CHECK.showing(court(four), 0, wrongKind + "a", 1, wrongKind.length());
        CHECK.showing(court(four), 0, wrongKind, 1, wrongKind.length());
        String five = "((rest any rest) any (rest any rest)) or rest";
        CHECK.showing(court(five), 0, "left " + of399, 0, -1);
        CHECK.showing(court(five), 0, "left " + of399 + " ", 0, -1);
        CHECK.showing(court(five), 0, "left " + of399 + " rest", 1, of399.length() + 6);
        String useAt400 = "left " + manyTokens(49, 49, 49, 49);
        String head = useAt400.substring(0, useAt400.length() - 4);
        CHECK.showing(court(five), 0, head + "use zz rest", 2, head.length() + 4);
        CHECK.showing(court(five), 0, head + "use $", 1, head.length() + 4);
    }

    private static void idleSteps() {
        GroundCourt court = court("rest");
        CHECK.showing(court, 0, "use o rest", 0, -1);
        passed(court, 2, 2, 0);
        CHECK.showing(court, 0, "use use rest", 0, -1);
        passed(court, 2, 2, 1);
        CHECK.showing(court, 0, "use o use back rest", 0, -1);
        passed(court, 3, 3, 2);
        CHECK.showing(court, 0, "use o use back use o rest", 0, -1);
        passed(court, 4, 4, 2);
        CHECK.showing(court, 0, "use o use back use use use o use o use back rest", 0, -1);
        passed(court, 7, 7, 5);
        CHECK.showing(court, 0, "use o use o use back use back rest", 0, -1);
        passed(court, 5, 5, 4);
        CHECK.showing(court, 0, "use o use q use back rest", 0, -1);
        passed(court, 4, 4, 0);
        CHECK.showing(court, 0, "use o use back use q use use rest", 0, -1);
        passed(court, 5, 5, 3);
        CHECK.showing(court, 0, "use o use p use back rest use use rest", 0, -1);
        passed(court, 6, 4, 1);
        GroundCourt either = court("rest or rest");
        CHECK.showing(either, 0, "use o left use back rest", 0, -1);
        passed(either, 4, 4, 0);
        GroundCourt each = court("rest any rest");
        CHECK.showing(each, 0, "use use each use o use back rest use use use use rest", 0, -1);
        passed(each, 8, 5, 5);
    }

    public static void main(String[] args) {
        noSuchClaim();
        leaves();
        ownKinds();
        splits();
        namesThatAreWordsOfSteps();
        uses();
        levels();
        tokens();
        idleSteps();
        CHECK.finish("ShowingTest");
    }
}
