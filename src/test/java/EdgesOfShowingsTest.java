/** The sentences of "==== III." that name a boundary case, one test each: SHOWINGS told as texts, IDLE steps. */
public final class EdgesOfShowingsTest {
    private static final Check CHECK = new Check();
    private static final String LAW = "ground a 1 2;ground b 1 1;ground left 1 0;"
            + "oath o a gives b;oath back b gives a;oath use nothing gives nothing;"
            + "bargain p a gives b or a+a;bargain q b gives nothing;bargain each b gives left;";

    /** There are a, a and b. */
    private static GroundCourt court(String claim) {
        return Check.told(LAW + "claim k 1=" + claim + ";");
    }

    private static GroundCourt court(String claim, int ofA, int ofB) {
        GroundCourt court = court(claim);
        court.put(0, ofA);
        court.put(1, ofB);
        return court;
    }

    private static void passed(GroundCourt court, int steps, int depth, int idle) {
        CHECK.same("passed(0)", court.passed(0), steps);
        CHECK.same("passed(1)", court.passed(1), depth);
        CHECK.same("passed(2)", court.passed(2), idle);
    }

    /** A SHOWING is cut behind each of its TOKENS: it can't end there. */
    private static void cut(GroundCourt court, String showing) {
        StringBuilder text = new StringBuilder();
        for (String token : showing.split(" ")) {
            CHECK.fails(court, 1, text + "@");
            text.append(text.length() == 0 ? "" : " ").append(token);
        }
        CHECK.passes(court, text.toString());
    }

    private static void stepsToldAsTexts() {
        CHECK.about("S: 'is' | 'none' | 'rest' | ('left' | 'right' | 'ever' | 'given') S | 'each' S S");
        cut(court("a", 1, 0), "is");
        cut(court("nothing", 0, 0), "none");
        cut(court("rest"), "rest");
        cut(court("rest or a"), "left rest");
        cut(court("a or rest"), "right rest");
        cut(court("ever rest", 0, 0), "ever rest");
        cut(court("[a]rest"), "given rest");
        cut(court("rest any rest"), "each rest rest");
        cut(court("(rest any rest) any rest"), "each each rest rest rest");
        for (String wrong : new String[] {"any", "or", "nothing", "gives", "ground", "5", "(", ";", "zz", "a", "o", "restt",
            "Rest", "isis", "$"}) {
            CHECK.fails(court("rest"), 1, "@" + wrong);
            CHECK.fails(court("rest or a"), 1, "left @" + wrong);
            CHECK.fails(court("rest any a"), 1, "each rest @" + wrong);
        }
        CHECK.about("'split' SIDE '(' {NAME} ')' S S");
        cut(court("rest*rest"), "split nothing ( ) rest rest");
        cut(court("rest*rest"), "split a + a ( p q each ) rest rest");
        String[] wrong = {"@() rest rest", "@rest () rest rest", "nothing@+a () rest rest", "a+@nothing () rest rest",
            "a+@() rest rest", "a @a () rest rest", "a @rest rest", "a @) rest rest", "a (@rest) rest rest",
            "a (@ever) rest rest", "a (p@,q) rest rest", "a (p@+q) rest rest", "a (@(p) rest rest", "a (@1) rest rest",
            "a (p@; rest rest", "a () @) rest", "@5 () rest rest"};
        for (String split : wrong) {
            CHECK.fails(court("rest*rest"), 1, "split " + split);
        }
        CHECK.about("'use' NAME S [S]");
        cut(court("rest"), "use o rest");
        cut(court("rest"), "use q rest");
        cut(court("rest"), "use p rest rest");
        for (String use : new String[] {"@rest", "@ever", "@nothing", "@5", "@(", "@$", "@useuseuse"}) {
            CHECK.fails(court("rest"), 1, "use " + use + " rest");
        }
    }

    private static void whatSplitNames() {
        CHECK.about("SPLIT names what goes to the first part, and in ( ) its BARGAINS");
        CHECK.passes(court("b*(a*a)"), "split b () is split a () is is");
        CHECK.fails(court("b*(a*a)"), 7, "split a+a () @is split a () is is");
        CHECK.passes(court("rest*rest", 0, 2), "split b (q) use q rest rest");
        CHECK.passes(court("rest*rest", 0, 2), "split b () rest use q rest");
        CHECK.fails(court("rest*rest", 0, 2), 8, "split b (q) rest @use q rest");
        CHECK.fails(court("rest*rest", 0, 2), 8, "split b () @use q rest rest");
        CHECK.passes(court("nothing*rest"), "split nothing () none rest");
        CHECK.passes(court("rest*nothing"), "split a+a+b (p q each) rest none");
    }

    private static void oneOrTwoBelowUse() {
        CHECK.about("USE an OATH or a BARGAIN (with two SIDES to give: two S).");
        CHECK.fails(court("rest"), 1, "use p rest@");
        CHECK.fails(court("rest"), 1, "use p rest rest @rest");
        CHECK.fails(court("rest"), 1, "use q rest @rest");
        CHECK.fails(court("rest"), 1, "use o rest @rest");
        CHECK.passes(court("rest any rest"), "each use p rest rest use p rest rest");
        CHECK.passes(court("a*a or b*b", 1, 1), "use o right split b () is is");
    }

    private static void wordsThatAreNames() {
        CHECK.about("These words are NAMES elsewhere, but 'rest' and 'ever'.");
        for (String word : new String[] {"is", "none", "left", "right", "given", "each", "split", "use"}) {
            CHECK.fine("ground " + word + " 1 1;claim k 1=" + word + ";");
            CHECK.fine("ground a 1 1;oath " + word + " a gives a;");
            CHECK.fine("ground a 1 1;bargain " + word + " a gives a;");
            CHECK.fine("claim " + word + " 1=rest;");
        }
        for (String word : new String[] {"rest", "ever"}) {
            CHECK.fault(1, "ground @" + word + " 1 1;");
            CHECK.fault(1, "oath @" + word + " nothing gives nothing;");
            CHECK.fault(1, "bargain @" + word + " nothing gives nothing;");
            CHECK.fault(1, "claim @" + word + " 1=rest;");
        }
        GroundCourt court = court("rest*rest");
        court.put(2, 2);
        CHECK.passes(court, "split left+left (each) use use rest use o rest");
    }

    private static void ofAClaim() {
        CHECK.about("It is of a CLAIM, with the STOCK that there is and the BARGAINS that are not made yet.");
        GroundCourt court = Check.told(LAW + "claim k 1=a;claim m 1=b;claim n 1=rest;");
        CHECK.showing(court, 0, "is", 7, 0);
        CHECK.showing(court, 2, "is", 6, 0);
        CHECK.showing(court, 2, "use q rest", 0, -1);
        court.put(0, 0);
        CHECK.showing(court, 0, "is", 7, 0);
        CHECK.showing(court, 1, "is", 0, -1);
        court.put(1, 0);
        court.put(0, 1);
        CHECK.showing(court, 0, "is", 0, -1);
        CHECK.showing(court, 1, "use o is", 0, -1);
        court.put(1, 1);
        court.bargain(1, false);
        CHECK.showing(court, 2, "use q rest", 8, 0);
        CHECK.showing(court, 2, "use each rest", 0, -1);
    }

    private static void theFirstWrongStep() {
        CHECK.about("It is read step by step, and the first step that is wrong is told, by its place: 1 SYNTAX (as above)");
        CHECK.fails(court("rest"), 6, "@is $");
        CHECK.fails(court("rest or a"), 6, "left @is is $");
        CHECK.fails(court("rest or a"), 6, "@is left");
        CHECK.fails(court("rest any a"), 7, "each rest @is none");
        CHECK.fails(court("a any rest"), 7, "each @is none");
        CHECK.fails(court("rest any rest"), 1, "each @$ is");
        CHECK.fails(court("rest"), 1, "  @");
        CHECK.fails(court("rest"), 1, "@abcdefghi");
        CHECK.fails(court("rest"), 6, " \t\r\n@is");
    }

    private static String row(int n) {
        return "use use ".repeat(n);
    }

    /** So many TOKENS, behind which what is below the last 'rest*rest' of WIDE must come. */
    private static String tokens(int n) {
        if (n % 2 == 1) {
            return "left " + tokens(n - 1);
        }
        int idle = (n - 6) / 2;
        int quarter = idle / 4;
        return "each each " + row(quarter) + "rest " + row(quarter) + "rest each " + row(quarter) + "rest "
                + row(idle - 3 * quarter);
    }

    private static final String EVEN = "(rest any rest) any (rest any rest*rest)";
    private static final String ODD = "((rest any rest) any (rest any rest*rest)) or rest";

    private static GroundCourt forTokens(int n) {
        return court(n % 2 == 0 ? EVEN : ODD);
    }

    /** The TOKEN behind the mark is the 401st; so many of this step stand ahead of it. */
    private static void the401st(int fault, int ahead, String step) {
        CHECK.fails(forTokens(400 - ahead), fault, tokens(400 - ahead) + step);
    }

    private static void tooManyTokens() {
        CHECK.about("2 a 401st TOKEN, whatever else but 1 it would be");
        CHECK.passes(forTokens(394), tokens(394) + "split nothing ( ) rest rest");
        CHECK.passes(forTokens(394), tokens(394) + "split nothing ( ) rest rest ");
        the401st(2, 5, "split nothing ( ) rest @rest");
        the401st(2, 5, "split nothing ( ) rest @is");
        the401st(2, 5, "split nothing ( ) rest @use zz");
        the401st(1, 5, "split nothing ( ) rest @zz");
        the401st(1, 5, "split nothing ( ) rest @(");
        the401st(1, 5, "split nothing ( ) rest @abcdefghi");
        the401st(1, 5, "split nothing ( ) rest @");
        the401st(1, 6, "split nothing ( ) rest rest @rest");
        the401st(2, 0, "@split nothing ( ) rest rest");
        the401st(2, 0, "@is");
        the401st(2, 1, "split @a");
        the401st(2, 1, "split @zz");
        the401st(1, 1, "split @(");
        the401st(2, 2, "split a @+");
        the401st(2, 3, "split a + @zz");
        the401st(2, 7, "split a + a + a + @a");
        the401st(2, 2, "split a @(");
        the401st(2, 3, "split a ( @p");
        the401st(2, 3, "split a ( @zz");
        the401st(2, 4, "split a ( p @p");
        the401st(1, 4, "split a ( p @$");
        the401st(2, 5, "split b + b ( @)");
        the401st(2, 1, "use @o");
        the401st(2, 1, "use @zz");
        the401st(1, 1, "use @5");
        CHECK.fails(forTokens(394), 7, tokens(394) + "@split b + b ( ) rest");
    }

    private static void tooManyLevels() {
        CHECK.about("more than 60 steps one below the other (at that step, ahead of 6)");
        GroundCourt court = court("rest");
        CHECK.passes(court, row(59) + "rest");
        passed(court, 60, 60, 59);
        CHECK.fails(court, 2, row(60) + "@rest");
        CHECK.fails(court, 2, row(60) + "@is");
        CHECK.fails(court, 2, row(60) + "@use use rest");
        CHECK.fails(court, 2, row(60) + "@use zz rest");
        CHECK.fails(court, 2, row(60) + "@use $");
        CHECK.fails(court, 2, row(60) + "@split");
        CHECK.fails(court, 1, row(60) + "@zz");
        CHECK.fails(court, 1, row(60) + "@");
        CHECK.fails(court, 6, row(59) + "@is");
        GroundCourt each = court("rest any rest");
        CHECK.passes(each, "each " + row(58) + "rest " + row(58) + "rest");
        passed(each, 119, 60, 116);
        CHECK.fails(each, 2, "each " + row(59) + "@rest " + row(58) + "rest");
        CHECK.fails(each, 2, "each " + row(58) + "rest " + row(59) + "@rest");
        GroundCourt cases = court("rest");
        CHECK.passes(cases, "use p " + row(58) + "rest " + row(58) + "rest");
        CHECK.fails(cases, 2, "use p rest " + row(59) + "@rest");
    }

    private static void namesOfNoSuchKind() {
        CHECK.about("4 NAME: none of that kind (at it; SPLIT: GROUNDS, in ( ) BARGAINS; USE: an OATH, a BARGAIN)");
        for (String name : new String[] {"o", "p", "k", "zz", "is"}) {
            CHECK.fails(court("rest*rest"), 4, "split @" + name + " () rest rest");
            CHECK.fails(court("rest*rest"), 4, "split a+@" + name + " $");
        }
        for (String name : new String[] {"a", "left", "o", "k", "zz", "is"}) {
            CHECK.fails(court("rest*rest"), 4, "split a (@" + name + ") rest rest");
            CHECK.fails(court("rest*rest"), 4, "split a (p @" + name + " $");
        }
        for (String name : new String[] {"a", "left", "k", "zz", "is"}) {
            CHECK.fails(court("rest"), 4, "use @" + name + " rest");
            CHECK.fails(court("rest"), 4, "use o use @" + name + " $");
        }
        CHECK.passes(court("rest*rest"), "split a (p q) use o rest use each rest");
    }

    private static void aFourthInItsSide() {
        CHECK.about("5 a 4th of one GROUND in its SIDE (at it)");
        GroundCourt three = court("rest*rest", 3, 3);
        CHECK.passes(three, "split a+a+a () rest rest");
        CHECK.passes(three, "split b+a+b+a+b+a () rest rest");
        CHECK.fails(three, 5, "split a+a+a+@a () rest rest");
        CHECK.fails(three, 5, "split a+a+a+@a $");
        CHECK.fails(three, 5, "split b+a+b+a+b+@b () rest rest");
        CHECK.fails(court("rest*rest", 0, 0), 5, "split a+a+a+@a () rest rest");
    }

    private static final String[] KINDS = {"a", "nothing", "rest", "rest or rest", "rest any rest", "rest*rest", "ever rest",
        "[a]rest"};
    private static final String[] STEPS = {"is", "none", "rest", "left", "right", "each", "split", "ever", "given"};
    private static final int[] KIND_OF_STEP = {0, 1, 2, 3, 3, 4, 5, 6, 7};

    private static void wrongKind() {
        CHECK.about("6 the step is not of the POINT's kind (at it; 'given' is of [ ])");
        for (int kind = 0; kind < KINDS.length; kind++) {
            for (int step = 0; step < STEPS.length; step++) {
                GroundCourt court = court(KINDS[kind], 0, 0);
                Check.feed(court, STEPS[step] + " $");
                int got = court.judge(0);
                if (KIND_OF_STEP[step] == kind) {
                    CHECK.same(STEPS[step] + " of " + KINDS[kind], got != 6, true);
                } else {
                    CHECK.same(STEPS[step] + " of " + KINDS[kind], got, 6);
                    CHECK.same("its place", court.place(), 0);
                }
            }
            CHECK.fails(court(KINDS[kind]), 1, "use use @$");
        }
        CHECK.fails(court("a*b or rest"), 6, "left @is");
        CHECK.fails(court("[a]rest"), 6, "given @given rest");
    }

    private static void wrongStock() {
        CHECK.about("7 the STOCK is not as it must be: IS, NONE, EVER, what SPLIT gives is not there, GIVEN with more than 3"
                + " behind it");
        int[][] stocks = {{0, 0}, {2, 0}, {3, 0}, {1, 1}, {0, 1}};
        for (int[] stock : stocks) {
            CHECK.fails(court("a", stock[0], stock[1]), 7, "@is");
        }
        CHECK.passes(court("a", 1, 0), "is");
        CHECK.passes(court("nothing", 0, 0), "none");
        CHECK.fails(court("nothing", 1, 0), 7, "@none");
        CHECK.fails(court("nothing", 0, 3), 7, "@none");
        CHECK.passes(court("rest", 0, 0), "rest");
        CHECK.passes(court("rest", 3, 3), "rest");
        CHECK.passes(court("ever rest", 0, 0), "ever rest");
        CHECK.fails(court("ever rest", 1, 0), 7, "@ever rest");
        CHECK.fails(court("ever rest", 0, 1), 7, "@ever $");
        CHECK.passes(court("rest*rest", 2, 1), "split a+a+b () rest rest");
        CHECK.passes(court("rest*rest", 0, 0), "split nothing () rest rest");
        CHECK.fails(court("rest*rest", 2, 1), 7, "@split a+a+a () rest rest");
        CHECK.fails(court("rest*rest", 2, 1), 7, "@split b+b () rest rest");
        CHECK.fails(court("rest*rest", 2, 1), 7, "@split left () rest rest");
        CHECK.fails(court("rest*rest", 0, 0), 7, "@split a () rest rest");
        CHECK.passes(court("[a]rest", 2, 3), "given rest");
        CHECK.fails(court("[a]rest", 3, 0), 7, "@given rest");
        CHECK.passes(court("[a+a+a]rest", 0, 3), "given rest");
        CHECK.fails(court("[a+a+a]rest", 1, 0), 7, "@given rest");
        CHECK.passes(court("[nothing]rest", 3, 3), "given rest");
    }

    private static void wrongUse() {
        CHECK.about("8 USE: an OATH that does not hold, a BARGAIN that is made or not at hand, what it takes is not there,"
                + " more than 3 behind it");
        GroundCourt off = court("rest");
        off.oath(0, false);
        CHECK.fails(off, 8, "@use o rest");
        CHECK.passes(off, "use back rest");
        off.oath(0, true);
        CHECK.passes(off, "use o rest");
        off.bargain(1, false);
        CHECK.fails(off, 8, "@use q rest");
        off.bargain(1, true);
        CHECK.passes(off, "use q rest");
        GroundCourt court = court("rest", 2, 3);
        CHECK.fails(court, 8, "use q @use q rest");
        CHECK.fails(court, 8, "use q use use @use q rest");
        CHECK.passes(court("rest any rest"), "each use q rest use q rest");
        CHECK.fails(court("rest*rest", 0, 2), 8, "split b () @use q rest rest");
        CHECK.fails(court("rest*rest", 0, 2), 8, "split b (q) rest @use q rest");
        CHECK.passes(court("rest*rest", 0, 2), "split b (q) use q rest use each rest");
        CHECK.passes(court("ever rest", 0, 1), "use q ever rest");
        CHECK.fails(court("ever rest", 0, 1), 7, "@ever use q rest");
        CHECK.fails(court("ever rest", 0, 0), 8, "ever @use q rest");
        CHECK.fails(court("rest", 0, 0), 8, "@use o rest");
        CHECK.fails(court("rest", 0, 0), 8, "@use q rest");
        CHECK.fails(court("rest", 0, 3), 8, "@use p rest rest");
        CHECK.passes(court("rest", 1, 2), "use o rest");
        CHECK.fails(court("rest", 1, 3), 8, "@use o rest");
        CHECK.passes(court("rest", 2, 2), "use p rest rest");
        CHECK.fails(court("rest", 1, 3), 8, "@use p rest rest");
        CHECK.fails(court("rest", 3, 0), 8, "@use p rest rest");
    }

    private static void wrongBargainsOfSplit() {
        CHECK.about("SPLIT: a BARGAIN not at hand, or named twice (at the NAME of it, as soon as it is read;");
        GroundCourt court = court("rest*(rest*rest)");
        CHECK.passes(court, "split a (p q each) rest split a () rest rest");
        CHECK.passes(court, "split a (each p q) rest split a () rest rest");
        CHECK.fails(court, 8, "split a (p @p) rest rest");
        CHECK.fails(court, 8, "split a (p q @p $");
        CHECK.fails(court, 8, "split left (p @p $");
        CHECK.fails(court, 8, "split a (p) rest split a (@p) rest rest");
        CHECK.fails(court, 8, "use q split a (p @q) rest rest");
        court.bargain(2, false);
        CHECK.fails(court, 8, "split a (p @each) rest rest");
        CHECK.fails(court, 8, "split left+left (@each $");
        CHECK.passes(court, "split a (p q) rest split a () rest rest");
        CHECK.fails(court("ever(rest*rest)", 0, 0), 8, "ever split nothing (@p) rest rest");
    }

    private static void whenItIsTold() {
        CHECK.about("all else of 6 .. 8 at the step's first TOKEN: 6 as soon as that is read, 7 and 8 when all TOKENS of the"
                + " step itself are).");
        CHECK.fails(court("rest or rest"), 6, "@split $");
        CHECK.fails(court("rest or rest"), 6, "@split zz (p p) rest");
        CHECK.fails(court("rest*rest"), 1, "split left @$");
        CHECK.fails(court("rest*rest"), 1, "split left (p q @$");
        CHECK.fails(court("rest*rest"), 1, "split left (@");
        CHECK.fails(court("rest*rest"), 7, "@split left (p q)$");
        CHECK.fails(court("rest*rest"), 7, "@split left ()");
        CHECK.fails(court("rest*rest"), 4, "split left+@zz () rest");
        CHECK.fails(court("rest*rest"), 4, "split left (@zz) rest");
        GroundCourt off = court("rest");
        off.oath(0, false);
        off.bargain(0, false);
        CHECK.fails(off, 1, "use @");
        CHECK.fails(off, 8, "@use o");
        CHECK.fails(off, 8, " @use o $");
        CHECK.fails(off, 8, "@use p $");
        CHECK.fails(off, 4, "use @zz $");
        CHECK.fails(court("a"), 7, "@is $");
        CHECK.fails(court("nothing"), 7, "@none none");
        CHECK.fails(court("[a+a]rest"), 7, "@given $");
    }

    private static void behindTheLastStep() {
        CHECK.about("Behind the last step the end, else 1.");
        CHECK.passes(court("rest"), "rest");
        CHECK.passes(court("rest"), "rest \n\t\r");
        for (String more : new String[] {"rest", "$", ";", "(", "zz", "abcdefghi", "use o", "12345"}) {
            CHECK.fails(court("rest"), 1, "rest @" + more);
            CHECK.fails(court("rest any rest"), 1, "each rest rest @" + more);
        }
    }

    private static void byWhatIsAtHand() {
        CHECK.about("(IS with a GROUND that there is one of, and so on: by what is at hand at that step.) 0: it is PASSED.");
        GroundCourt two = court("a*(b or a)");
        two.put(1, 0);
        CHECK.passes(two, "split a () is right is");
        CHECK.passes(two, "use o split a () is left is");
        CHECK.passes(two, "split a () is left use o is");
        CHECK.fails(two, 7, "split a () is left @is");
        CHECK.fails(two, 7, "split a () use o @is left use o is");
        CHECK.fails(two, 7, "split a+a () @is right is");
        CHECK.passes(court("nothing", 0, 1), "use q none");
        CHECK.fails(court("nothing", 0, 1), 7, "use use @none");
        CHECK.passes(court("ever nothing", 0, 1), "use q ever none");
        CHECK.passes(court("[b](a*b)", 1, 0), "given split a () is is");
        CHECK.passes(court("[a]rest", 3, 0), "use o given rest");
        CHECK.fails(court("b or a*a", 1, 0), 7, "use p left is right split a+a () @is is");
        CHECK.passes(court("b or a*a", 1, 0), "use p left is right split a () is is");
    }

    private static void idle(int due, String showing) {
        GroundCourt court = court("rest");
        CHECK.passes(court, showing + " rest");
        CHECK.same("IDLE steps of " + showing, court.passed(2), due);
    }

    private static void idleSteps() {
        CHECK.about("IDLE steps of one that is PASSED last: in a row of OATHS one below the other for one POINT, those between"
                + " two places with the same STOCK, the first such place and the last one of its like, then on from there.");
        idle(0, "");
        idle(0, "use o");
        idle(0, "use o use o");
        idle(1, "use use");
        idle(2, "use use use use");
        idle(2, "use o use back");
        idle(2, "use o use back use o");
        idle(4, "use o use back use o use back");
        idle(4, "use o use o use back use back");
        idle(2, "use o use o use back");
        idle(1, "use o use use use o");
        idle(3, "use use use o use back");
        idle(3, "use o use back use o use o use use");
        idle(2, "use use use o use use use o");
        idle(0, "use o use q use back");
        idle(2, "use o use back use q");
        idle(2, "use use use q use use");
        idle(0, "use q");
        GroundCourt points = court("rest or rest");
        CHECK.passes(points, "use o left use back rest");
        CHECK.same("for one POINT", points.passed(2), 0);
        CHECK.passes(points, "use use left use use rest");
        CHECK.same("for one POINT", points.passed(2), 2);
        GroundCourt each = court("rest any rest");
        CHECK.passes(each, "each use o rest use back rest");
        CHECK.same("one below the other", each.passed(2), 0);
        CHECK.passes(each, "each use o use back rest use back use o rest");
        CHECK.same("in both parts", each.passed(2), 4);
        CHECK.passes(each, "each use use use use rest use use rest");
        CHECK.same("a row ends with its own last place", each.passed(2), 3);
        GroundCourt cases = court("rest");
        CHECK.passes(cases, "use o use p use back rest use use rest");
        CHECK.same("in both cases", cases.passed(2), 1);
    }

    public static void main(String[] args) {
        stepsToldAsTexts();
        whatSplitNames();
        oneOrTwoBelowUse();
        wordsThatAreNames();
        ofAClaim();
        theFirstWrongStep();
        tooManyTokens();
        tooManyLevels();
        namesOfNoSuchKind();
        aFourthInItsSide();
        wrongKind();
        wrongStock();
        wrongUse();
        wrongBargainsOfSplit();
        whenItIsTold();
        behindTheLastStep();
        byWhatIsAtHand();
        idleSteps();
        CHECK.finish("EdgesOfShowingsTest");
    }
}
