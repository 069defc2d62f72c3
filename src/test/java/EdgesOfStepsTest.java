/** The sentences of "==== II." that name a boundary case, one test each: steps, DEPTH, MOVES, THE SHOWING. */
public final class EdgesOfStepsTest {
    private static final Check CHECK = new Check();
    private static final String EMPTY = "ground a 1 0;ground b 1 0;ground c 1 0;ground d 1 0;";
    private static final int STOCKS = 256;

    private static GroundCourt court(String deals, String claim) {
        return Check.told(EMPTY + deals + "claim k 1=" + claim + ";");
    }

    private static int place(int point, int stock, int bargains) {
        return 2048 * point + 8 * stock + bargains;
    }

    /** DEPTH of the CLAIM with a STOCK and BARGAINS. */
    private static void depth(GroundCourt court, int stock, int bargains, int due) {
        CHECK.same("depth with " + stock + ", " + bargains, court.depth(court.pointOf(0), stock, bargains), due);
    }

    private static void moves(GroundCourt court, int stock, int bargains, int... steps) {
        int root = court.pointOf(0);
        CHECK.same("moves with " + stock + ", " + bargains, court.moves(root, stock, bargains), steps.length);
        for (int i = 0; i < steps.length; i++) {
            CHECK.same("move " + i, court.move(root, stock, bargains, i, 0), steps[i]);
        }
        CHECK.same("move " + steps.length, court.move(root, stock, bargains, steps.length, 0), -1);
    }

    /** The first place that the i-th of the MOVES leads to and that can't be shown. */
    private static void leads(GroundCourt court, int stock, int bargains, int i, int due) {
        CHECK.same("move " + i + " leads", court.move(court.pointOf(0), stock, bargains, i, 2), due);
    }

    private static void leaves() {
        CHECK.about("IS: a NAME, with just one of that GROUND.");
        for (int ground = 0; ground < 4; ground++) {
            GroundCourt court = court("", "" + (char) ('a' + ground));
            for (int stock = 0; stock < STOCKS; stock++) {
                CHECK.same("IS with " + stock, court.depth(0, stock, 0), stock == 1 << 2 * ground ? 1 : 0);
            }
        }
        CHECK.about("NONE: nothing, with the empty STOCK.");
        GroundCourt none = court("", "nothing");
        for (int stock = 0; stock < STOCKS; stock++) {
            CHECK.same("NONE with " + stock, none.depth(0, stock, 0), stock == 0 ? 1 : 0);
        }
        CHECK.about("REST: rest, with any.");
        GroundCourt rest = court("", "rest");
        for (int stock = 0; stock < STOCKS; stock++) {
            CHECK.same("REST with " + stock, rest.depth(0, stock, 0), 1);
        }
    }

    private static void eitherPart() {
        CHECK.about("LEFT, RIGHT: of 'or' the first or the second part, with all.");
        GroundCourt court = court("bargain p d gives d;", "a or b");
        depth(court, 1, 0, 2);
        depth(court, 4, 0, 2);
        depth(court, 0, 0, 0);
        depth(court, 2, 0, 0);
        depth(court, 5, 0, 0);
        leads(court, 5, 1, 0, place(0, 5, 1));
        leads(court, 5, 1, 1, place(1, 5, 1));
    }

    private static void bothParts() {
        CHECK.about("EACH: of 'any' both parts, each with all.");
        GroundCourt same = court("bargain p nothing gives a;", "a any a");
        depth(same, 1, 0, 2);
        depth(same, 2, 0, 0);
        depth(same, 0, 0, 0);
        depth(same, 0, 1, 3);
        GroundCourt first = court("bargain p d gives d;", "a any rest");
        depth(first, 5, 0, 0);
        leads(first, 5, 1, 0, place(0, 5, 1));
        GroundCourt second = court("bargain p d gives d;", "rest any b");
        depth(second, 5, 0, 0);
        leads(second, 5, 1, 0, place(1, 5, 1));
        GroundCourt both = court("", "a any b");
        leads(both, 4, 0, 0, place(0, 4, 0));
        leads(both, 1, 0, 0, place(1, 1, 0));
    }

    private static void partedParts() {
        CHECK.about("SPLIT: of '*' the first part with some of the STOCK and some of the BARGAINS, the second one with the"
                + " others.");
        depth(court("", "nothing*a"), 1, 0, 2);
        depth(court("", "a*nothing"), 1, 0, 2);
        depth(court("", "nothing*rest"), 255, 0, 2);
        depth(court("", "rest*nothing"), 255, 0, 2);
        CHECK.same("without GROUNDS", Check.told("claim k 1=nothing*nothing;").can(0), 2);
        CHECK.same("the full STOCK", Check.told("ground a 1 3;claim k 1=nothing*(a*a*a);").can(0), 4);
        depth(court("", "rest*rest"), 0, 0, 2);
        depth(court("", "rest*rest"), 255, 0, 2);
        String deals = "bargain p nothing gives a;bargain q nothing gives a;";
        GroundCourt two = court(deals, "a*a");
        depth(two, 0, 0, 0);
        depth(two, 1, 0, 0);
        depth(two, 2, 0, 2);
        depth(two, 3, 0, 0);
        depth(two, 1, 1, 3);
        depth(two, 0, 1, 0);
        depth(two, 0, 2, 0);
        depth(two, 0, 3, 3);
        depth(two, 3, 3, 0);
        GroundCourt three = court(deals, "(a any a)*a");
        depth(three, 0, 1, 0);
        depth(three, 0, 3, 4);
        leads(court("bargain p d gives d;bargain q d gives d;", "rest*a"), 6, 3, 0, place(1, 6, 3));
        leads(court("bargain p d gives d;bargain q d gives d;", "rest*a"), 6, 3, 5, place(1, 5, 2));
    }

    private static void everAgain() {
        CHECK.about("EVER: its part, with the empty STOCK and no BARGAINS, if the STOCK is empty.");
        String deals = "bargain p nothing gives a;bargain q a gives nothing;";
        GroundCourt rest = court(deals, "ever rest");
        depth(rest, 0, 0, 2);
        depth(rest, 1, 0, 0);
        depth(rest, 64, 0, 0);
        depth(rest, 0, 3, 2);
        depth(rest, 1, 1, 0);
        depth(rest, 1, 2, 3);
        depth(rest, 2, 2, 0);
        moves(rest, 0, 0, 7);
        moves(rest, 1, 0);
        moves(rest, 192, 0);
        GroundCourt name = court(deals, "ever a");
        depth(name, 0, 1, 0);
        depth(name, 0, 3, 0);
        depth(name, 1, 0, 0);
        leads(name, 0, 3, 0, place(0, 0, 0));
        depth(court("oath o nothing gives a;", "ever a"), 0, 0, 3);
    }

    private static void withASideMore() {
        CHECK.about("GIVEN: of [ ] its part, with its SIDE more.");
        GroundCourt one = court("bargain p d gives d;", "[a](a*a)");
        depth(one, 0, 0, 0);
        depth(one, 1, 0, 3);
        depth(one, 2, 0, 0);
        leads(one, 0, 1, 0, place(2, 1, 1));
        leads(one, 2, 0, 0, place(2, 3, 0));
        moves(one, 3, 0);
        GroundCourt three = court("", "[a+a+a]rest");
        depth(three, 0, 0, 2);
        depth(three, 1, 0, 0);
        depth(three, 4, 0, 2);
        moves(three, 0, 0, 8);
        moves(three, 1, 0);
        moves(three, 252, 0, 8);
        moves(three, 253, 0);
        moves(court("", "[nothing]rest"), 255, 0, 8);
        moves(court("", "[d]rest"), 191, 0, 8);
        moves(court("", "[d]rest"), 192, 0);
        moves(court("", "[b+b]rest"), 7, 0, 8);
        moves(court("", "[b+b]rest"), 11, 0);
    }

    private static void oaths() {
        CHECK.about("OATH: one that holds: its first SIDE is taken out of the STOCK and its second one comes in, for the same"
                + " POINT.");
        GroundCourt court = court("oath o a gives b;bargain p d gives d;", "b");
        depth(court, 1, 0, 2);
        depth(court, 4, 0, 1);
        depth(court, 0, 0, 0);
        depth(court, 2, 0, 0);
        depth(court, 5, 0, 0);
        leads(court, 2, 1, 0, place(0, 5, 1));
        court.oath(0, false);
        depth(court, 1, 0, 0);
        moves(court, 1, 0);
        court.oath(0, true);
        depth(court, 1, 0, 2);
        depth(court("oath o a gives b;", "b*b*b"), 3, 0, 4);
        depth(court("oath o a gives a+a;", "a*a*a"), 1, 0, 5);
        depth(court("oath o a gives b;oath n b gives a;", "c"), 1, 0, 0);
        depth(court("oath o nothing gives nothing;", "nothing"), 1, 0, 0);
    }

    private static void bargains() {
        CHECK.about("BARGAIN: likewise one that is not made yet; it is made then; with two SIDES to give the same POINT must"
                + " be shown in both cases.");
        GroundCourt once = court("bargain p a gives b;", "b");
        depth(once, 1, 0, 0);
        depth(once, 1, 1, 2);
        leads(once, 2, 1, 0, place(0, 5, 0));
        GroundCourt three = court("bargain p a gives b;bargain q a gives b;bargain r a gives b;", "c");
        for (int bargain = 0; bargain < 3; bargain++) {
            CHECK.same("BARGAIN " + bargain, three.move(0, 1, 7, bargain, 0), 20 + bargain);
            leads(three, 1, 7, bargain, place(0, 4, 7 - (1 << bargain)));
        }
        depth(court("bargain p a gives b;", "b*b"), 2, 1, 0);
        depth(court("bargain p a gives b;bargain q a gives b;", "b*b"), 2, 3, 3);
        depth(court("bargain p a gives b;bargain q b gives c;", "c"), 1, 3, 3);
        String two = "bargain p a gives b or c;";
        depth(court(two, "b"), 1, 1, 0);
        depth(court(two, "c"), 1, 1, 0);
        depth(court(two, "b or c"), 1, 1, 3);
        depth(court(two, "rest"), 1, 1, 1);
        leads(court(two, "b"), 1, 1, 0, place(0, 16, 0));
        leads(court(two, "c"), 1, 1, 0, place(0, 4, 0));
        leads(court(two, "d"), 1, 1, 0, place(0, 4, 0));
        depth(court("bargain p a gives b or b;", "b"), 1, 1, 2);
        depth(court("bargain p a gives nothing or c;", "nothing or c"), 1, 1, 3);
        depth(court("bargain p a gives c or nothing;", "c"), 1, 1, 0);
    }

    private static void whatMustBeThere() {
        CHECK.about("What is taken out must be there; of no GROUND may there be more than 3 behind it (then the step can't"
                + " be).");
        for (String kind : new String[] {"oath", "bargain"}) {
            int deal = kind.equals("oath") ? 10 : 20;
            GroundCourt taken = court(kind + " o a+a gives nothing;", "rest");
            moves(taken, 0, taken.count(7), 2);
            moves(taken, 1, taken.count(7), 2);
            moves(taken, 13, taken.count(7), 2);
            moves(taken, 2, taken.count(7), 2, deal);
            moves(taken, 3, taken.count(7), 2, deal);
            GroundCourt come = court(kind + " o nothing gives d;", "rest");
            moves(come, 128, come.count(7), 2, deal);
            moves(come, 192, come.count(7), 2);
            moves(come, 63, come.count(7), 2, deal);
            GroundCourt more = court(kind + " o a gives a+a;", "rest");
            moves(more, 2, more.count(7), 2, deal);
            moves(more, 3, more.count(7), 2);
            GroundCourt same = court(kind + " o a+a+a gives a+a+a;", "rest");
            moves(same, 3, same.count(7), 2, deal);
            moves(same, 2, same.count(7), 2);
            GroundCourt all = court(kind + " o b gives a+a+a;", "rest");
            moves(all, 4, all.count(7), 2, deal);
            moves(all, 5, all.count(7), 2);
        }
        GroundCourt second = court("bargain p nothing gives nothing or a;", "rest");
        moves(second, 2, 1, 2, 20);
        moves(second, 3, 1, 2);
        GroundCourt first = court("bargain p nothing gives a or nothing;", "rest");
        moves(first, 2, 1, 2, 20);
        moves(first, 3, 1, 2);
        depth(court("bargain p nothing gives nothing or a;", "a*a or rest"), 3, 1, 2);
    }

    private static void allMustBeSpent() {
        CHECK.about("All must be spent at the end but by REST; BARGAINS need not be made.");
        depth(court("", "a or b"), 5, 0, 0);
        depth(court("", "a any rest"), 5, 0, 0);
        depth(court("", "a*b"), 5, 0, 2);
        depth(court("", "a*b"), 21, 0, 0);
        depth(court("", "a*rest"), 1, 0, 2);
        depth(court("", "a*rest"), 255, 0, 2);
        String three = "bargain p a gives b;bargain q a gives b;bargain r nothing gives c;";
        depth(court(three, "a"), 1, 7, 1);
        depth(court(three, "nothing"), 0, 7, 1);
        depth(court(three, "a*a"), 2, 7, 2);
    }

    private static void leastDepths() {
        CHECK.about("DEPTH: of all ways the least number of steps one below the other (IS, NONE, REST: 1).");
        depth(court("", "a"), 1, 0, 1);
        depth(court("", "nothing"), 0, 0, 1);
        depth(court("", "rest"), 1, 0, 1);
        depth(court("", "a or b or a"), 1, 0, 2);
        depth(court("", "a or (b or a)"), 1, 0, 2);
        depth(court("", "(b or a) or b"), 1, 0, 3);
        depth(court("", "(a or b)*b"), 5, 0, 3);
        depth(court("", "b*(a or b)"), 5, 0, 3);
        depth(court("", "rest any (rest any rest)"), 5, 0, 3);
        depth(court("oath o a gives b;oath n b gives c;oath l a gives c;", "c"), 1, 0, 2);
        depth(court("bargain p a gives b;bargain q b gives c;bargain r a gives c;", "c"), 1, 7, 2);
        depth(court("bargain p a gives b or c;", "b or c or (b or c)"), 1, 1, 4);
        GroundCourt longest = court("oath o a gives nothing;oath n b gives a+a+a;oath l c gives b+b+b;", "nothing");
        depth(longest, 63, 0, 55);
        depth(longest, 64, 0, 0);
    }

    private static void allThatCanBeDone() {
        CHECK.about("all steps that can be done there, whether what they lead to CAN be shown or not");
        moves(court("", "c or d"), 1, 0, 3, 4);
        moves(court("", "c any d"), 1, 0, 5);
        moves(court("", "c*d"), 1, 0, 6, 6);
        moves(court("", "ever c"), 0, 0, 7);
        moves(court("", "[b]c"), 1, 0, 8);
        moves(court("", "c"), 1, 0);
        moves(court("oath o a gives b;", "c"), 1, 0, 10);
        moves(court("bargain p a gives b;", "c"), 1, 1, 20);
        moves(court("bargain p a gives b;", "c"), 1, 0);
        moves(court("oath o a gives b;", "a"), 1, 0, 0, 10);
        moves(court("oath o a gives a;", "rest"), 1, 0, 2, 10);
        moves(court("oath o nothing gives a;", "nothing"), 0, 0, 1, 10);
        CHECK.same("all splits", court("bargain p d gives d;bargain q d gives d;bargain r d gives d;", "a*b")
                .moves(2, 255, 0), 256);
        CHECK.same("all splits", court("bargain p d gives d;bargain q d gives d;bargain r d gives d;", "a*b")
                .moves(2, 63, 7), 64 * 8);
    }

    private static void orderOfMoves() {
        CHECK.about("those of the POINT's own kind (LEFT, then RIGHT; SPLIT by the number of the STOCK, then the bits of"
                + " BARGAINS, for the first part, from the least on), then OATHS, then BARGAINS by numbers.");
        String deals = "bargain p a gives a;oath o a gives b;bargain q a gives a;oath n b gives a;bargain r a gives a;";
        GroundCourt court = court(deals, "c*c");
        int[] stocks = {0, 1, 2, 4, 5, 6};
        int[] sets = {0, 1, 4, 5};
        int i = 0;
        for (int stock : stocks) {
            for (int set : sets) {
                CHECK.same("step " + i, court.move(2, 6, 5, i, 0), 6);
                leads(court, 6, 5, i, place(0, stock, set));
                i++;
            }
        }
        int[] steps = {10, 11, 20, 22};
        for (int step : steps) {
            CHECK.same("step " + i, court.move(2, 6, 5, i, 0), step);
            i++;
        }
        CHECK.same("moves", court.moves(2, 6, 5), i);
        moves(court(deals, "c or c"), 5, 7, 3, 4, 10, 11, 20, 21, 22);
    }

    private static void step(GroundCourt court, int i, int step, int point, int stock, int bargains) {
        int[] due = {step, point, stock, bargains};
        for (int what = 0; what < due.length; what++) {
            CHECK.same("step(0, " + i + ", " + what + ")", court.step(0, i, what), due[what]);
        }
    }

    private static GroundCourt withOne(String deals, String claim) {
        GroundCourt court = court(deals, claim);
        court.put(0, 1);
        return court;
    }

    private static void theFirstOfAlikeOnes() {
        CHECK.about("THE SHOWING of a POINT that CAN be shown: at each place the step by which the DEPTH is least; of alike"
                + " ones the first of its MOVES.");
        step(withOne("", "a or rest"), 0, 3, 2, 1, 0);
        step(withOne("", "(a or a) or a"), 0, 4, 4, 1, 0);
        step(withOne("", "b or a"), 0, 4, 2, 1, 0);
        step(withOne("oath o a gives b;", "b or b"), 0, 3, 2, 1, 0);
        step(withOne("bargain p a gives b;oath o a gives c;oath n a gives b;", "b"), 0, 11, 0, 1, 1);
        step(withOne("oath o a gives b;oath n a gives b;", "b"), 0, 10, 0, 1, 0);
        step(withOne("bargain p a gives b;bargain q a gives b;", "b"), 0, 20, 0, 1, 3);
        step(withOne("bargain p a gives b or b;oath o a gives b;", "b"), 0, 10, 0, 1, 1);
        step(withOne("oath o a gives c;oath n c gives b;bargain p a gives b;", "b"), 0, 20, 0, 1, 1);
        step(withOne("oath o a gives a;oath n a gives b;", "b"), 0, 11, 0, 1, 0);
        GroundCourt split = withOne("bargain p d gives d;bargain q d gives d;", "rest*rest");
        step(split, 0, 6, 2, 1, 3);
        CHECK.same("the least STOCK", split.step(0, 0, 4), 0);
        CHECK.same("the least BARGAINS", split.step(0, 0, 5), 0);
        GroundCourt less = withOne("oath o nothing gives a;", "a*a");
        step(less, 0, 6, 2, 1, 0);
        CHECK.same("the least STOCK", less.step(0, 0, 4), 0);
        GroundCourt alike = withOne("", "(nothing or a)*(nothing or a)");
        CHECK.same("DEPTH", alike.can(0), 3);
        CHECK.same("the least STOCK", alike.step(0, 0, 4), 0);
        GroundCourt shallow = withOne("", "(nothing or a)*(nothing or (a or (a or a)))");
        CHECK.same("DEPTH", shallow.can(0), 3);
        CHECK.same("the STOCK of the least DEPTH", shallow.step(0, 0, 4), 1);
    }

    private static void numbersOfSteps() {
        CHECK.about("Steps are numbered from 0 on: each, then those below it (the first part, or case, ahead of the second"
                + " one).");
        GroundCourt cases = withOne("bargain p a gives b or c;", "b or c");
        CHECK.same("steps", cases.steps(0), 5);
        step(cases, 0, 20, 2, 1, 1);
        step(cases, 1, 3, 2, 4, 0);
        step(cases, 2, 0, 0, 4, 0);
        step(cases, 3, 4, 2, 16, 0);
        step(cases, 4, 0, 1, 16, 0);
        GroundCourt parts = withOne("", "(nothing any rest)*(a any rest)");
        CHECK.same("steps", parts.steps(0), 7);
        int[] steps = {6, 5, 1, 2, 5, 0, 2};
        int[] points = {6, 2, 0, 1, 5, 3, 4};
        for (int i = 0; i < steps.length; i++) {
            step(parts, i, steps[i], points[i], i == 0 || i > 3 ? 1 : 0, 0);
        }
        CHECK.same("step 7", parts.step(0, 7, 0), -1);
    }

    public static void main(String[] args) {
        leaves();
        eitherPart();
        bothParts();
        partedParts();
        everAgain();
        withASideMore();
        oaths();
        bargains();
        whatMustBeThere();
        allMustBeSpent();
        leastDepths();
        allThatCanBeDone();
        orderOfMoves();
        theFirstOfAlikeOnes();
        numbersOfSteps();
        CHECK.finish("EdgesOfStepsTest");
    }
}
