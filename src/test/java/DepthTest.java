/** Promises 15 to 21: DEPTH, THE SHOWING, MOVES. */
public final class DepthTest {
    private static final Check CHECK = new Check();

    private static GroundCourt court(String tells, String claim) {
        return Check.told(tells + "claim k 1 = " + claim + ";");
    }

    private static void due(String tells, String claim, int can) {
        GroundCourt court = court(tells, claim);
        CHECK.same("can of " + claim + " by " + tells, court.can(0), can);
        int root = court.pointOf(0);
        int depth = court.depth(root, court.count(5), court.count(7));
        CHECK.same("depth of " + claim + " by " + tells, depth, Math.max(0, can));
    }

    private static void eachKindOfStep() {
        String one = "ground a 1 1;ground b 1 0;";
        String two = "ground a 1 1;ground b 1 1;";
        String none = "ground a 1 0;ground b 1 0;";
        due(one, "a", 1);
        due(one, "b", -2);
        due(two, "a", -2);
        due(none, "a", -2);
        due("ground a 1 2;", "a", -2);
        due(none, "nothing", 1);
        due(one, "nothing", -2);
        due(one, "rest", 1);
        due(none, "rest", 1);
        due(one, "b or a", 2);
        due(one, "b or nothing", -2);
        due(one, "b or b or a", 2);
        due(one, "a or b or b", 3);
        due(one, "a any rest", 2);
        due(one, "a any b", -2);
        due(two, "a * b", 2);
        due(two, "b * a", 2);
        due(two, "a * a", -2);
        due(two, "a * b * nothing", 3);
        due(two, "a * rest", 2);
        due(two, "a * b * b", -2);
        due(none, "ever nothing", 2);
        due(one, "ever rest", -2);
        due(one, "ever rest * a", 3);
        due(one, "[b] (a * b)", 3);
        due(one, "[a+a] rest", 2);
        due(one, "[a+a+a] rest", -2);
        due(one, "[nothing] a", 2);
    }

    private static void deals() {
        String one = "ground a 1 1;ground b 1 0;";
        due(one + "oath o a gives b;", "b", 2);
        due(one + "oath o a gives b;oath n b gives a;", "b or nothing", 3);
        due(one + "oath o a gives b+b;", "b", -2);
        due(one + "oath o a gives b+b;", "b * b", 3);
        due(one + "oath o a gives a+a;", "a * a * a", 5);
        due(one + "oath o a gives a+a;", "a * a * a * a", 7);
        due(one + "oath o a gives a+a;oath n a gives b;", "a * a * a * b * b", 9);
        due(one + "oath o a gives nothing;", "ever nothing", 3);
        due(one + "oath o nothing gives b;", "a * b", 3);
        due("ground a 1 3;" + "oath o nothing gives a;", "a * a * a * a", 4);
        due("ground a 1 3;" + "oath o nothing gives a;", "[a] rest", -2);
        due("ground a 1 3;" + "oath o a+a+a gives a+a+a;", "a * a * a", 3);
        due("ground a 1 3;" + "oath o a+a gives nothing;", "a", 2);
        due(one + "bargain p a gives b;", "b", 2);
        due(one + "bargain p a gives b;bargain q b gives a+b;", "a * b", 4);
        due("ground a 1 2;ground b 1 0;bargain p a gives b;", "b * b", -2);
        due("ground a 1 2;ground b 1 0;bargain p a gives b;bargain q a gives b;", "b * b", 3);
        due(one + "bargain p a gives b or nothing;", "b", -2);
        due(one + "bargain p a gives b or nothing;", "b or nothing", 3);
        due(one + "bargain p a gives b or b;", "b", 2);
        due(one + "bargain p a gives b or a+a+a;", "b or rest", 2);
        due(one + "bargain p a gives b or a+a+a;", "(b or a * a) any (b or a * a * a)", -2);
        due("ground a 1 1;ground b 1 3;bargain p a gives nothing or b;", "b * b * b", -2);
        due("ground a 1 0;bargain p nothing gives a;", "ever a", -2);
        due("ground a 1 0;oath o nothing gives a;", "ever a", 3);
        due("ground a 1 0;bargain p nothing gives a;", "a any a", 3);
        due("ground a 1 0;bargain p nothing gives a;", "(a any a) * a", -2);
    }

    private static void noSuchPlaces() {
        GroundCourt court = court("ground a 1 1;bargain p a gives a;", "a");
        int[][] places = {{-1, 0, 0}, {1, 0, 0}, {0, -1, 0}, {0, 4, 0}, {0, 0, -1}, {0, 0, 2},
            {Integer.MAX_VALUE, 0, 0}, {0, Integer.MAX_VALUE, 0}, {0, 0, Integer.MIN_VALUE}};
        for (int[] p : places) {
            CHECK.same("depth", court.depth(p[0], p[1], p[2]), -1);
            CHECK.same("moves", court.moves(p[0], p[1], p[2]), -1);
            CHECK.same("move", court.move(p[0], p[1], p[2], 0, 0), -1);
        }
        CHECK.same("depth", court.depth(0, 1, 0), 1);
        CHECK.same("depth", court.depth(0, 3, 1), 0);
        for (int claim : new int[] {-1, 1, 6, Integer.MAX_VALUE}) {
            CHECK.same("can", court.can(claim), -1);
            CHECK.same("stocks", court.stocks(claim), -1);
            CHECK.same("steps", court.steps(claim), -1);
            CHECK.same("step", court.step(claim, 0, 0), -1);
        }
        GroundCourt bare = Check.told("claim k 1 = nothing;");
        CHECK.same("the only STOCK", bare.depth(0, 0, 0), 1);
        CHECK.same("no other STOCK", bare.depth(0, 1, 0), -1);
        CHECK.same("no BARGAINS", bare.depth(0, 0, 1), -1);
        CHECK.same("stocks", bare.stocks(0), 1);
    }

    private static void byWhatThereIs() {
        GroundCourt court = court("ground a 1 1;ground b 1 0;oath o a gives b;bargain p b gives a+a;", "b or a * a");
        CHECK.same("can", court.can(0), 3);
        CHECK.same("stocks", court.stocks(0), 3);
        court.oath(0, false);
        CHECK.same("can without OATH", court.can(0), -2);
        CHECK.same("stocks without OATH", court.stocks(0), 2);
        court.put(0, 0);
        court.put(1, 1);
        CHECK.same("can of b", court.can(0), 2);
        court.put(0, 2);
        court.put(1, 0);
        CHECK.same("can of two", court.can(0), 3);
        court.bargain(0, false);
        court.oath(0, true);
        CHECK.same("stocks without BARGAIN", court.stocks(0), 3);
        CHECK.same("depth with BARGAIN all the same", court.depth(4, 4, 1), 2);
        CHECK.same("depth of the second part", court.depth(3, 4, 1), 3);
        CHECK.same("depth of the second part", court.depth(3, 4, 0), 0);
    }

    private static void step(GroundCourt court, int i, int... due) {
        for (int what = 0; what < 6; what++) {
            CHECK.same("step(0, " + i + ", " + what + ")", court.step(0, i, what), due[what]);
        }
        CHECK.same("step(0, " + i + ", 6)", court.step(0, i, 6), -1);
        CHECK.same("step(0, " + i + ", -1)", court.step(0, i, -1), -1);
    }

    private static void theShowing() {
        GroundCourt court = court("ground a 1 1;ground b 1 1;ground c 1 0;oath o c gives a;"
                + "bargain p nothing gives c or a;", "(a or b) * (rest any ([c] rest or rest)) * ever rest");
        CHECK.same("can", court.can(0), 5);
        CHECK.same("steps", court.steps(0), 10);
        step(court, 0, 6, 12, 5, 1, 5, 0);
        step(court, 1, 6, 9, 5, 0, 1, 0);
        step(court, 2, 3, 2, 1, 0, -1, -1);
        step(court, 3, 0, 0, 1, 0, -1, -1);
        step(court, 4, 5, 8, 4, 0, -1, -1);
        step(court, 5, 2, 3, 4, 0, -1, -1);
        step(court, 6, 4, 7, 4, 0, -1, -1);
        step(court, 7, 2, 6, 4, 0, -1, -1);
        step(court, 8, 7, 11, 0, 1, -1, -1);
        step(court, 9, 2, 10, 0, 0, -1, -1);
        CHECK.same("no 11th step", court.step(0, 10, 0), -1);
        CHECK.same("no such step", court.step(0, -1, 0), -1);
        CHECK.same("no such step", court.step(0, Integer.MAX_VALUE, 0), -1);
    }

    private static void theShowingOfDeals() {
        GroundCourt court = court("ground a 1 1;ground b 1 0;ground c 1 0;oath n nothing gives nothing;"
                + "oath o a gives b;bargain p b gives c or a+a;", "c * nothing or a * a");
        CHECK.same("can", court.can(0), 5);
        CHECK.same("steps", court.steps(0), 10);
        step(court, 0, 11, 6, 1, 1, -1, -1);
        step(court, 1, 20, 6, 4, 1, -1, -1);
        step(court, 2, 3, 6, 16, 0, -1, -1);
        step(court, 3, 6, 2, 16, 0, 16, 0);
        step(court, 4, 0, 0, 16, 0, -1, -1);
        step(court, 5, 1, 1, 0, 0, -1, -1);
        step(court, 6, 4, 6, 2, 0, -1, -1);
        step(court, 7, 6, 5, 2, 0, 1, 0);
        step(court, 8, 0, 3, 1, 0, -1, -1);
        step(court, 9, 0, 4, 1, 0, -1, -1);
        step(court, 10, -1, -1, -1, -1, -1, -1);
        court.put(0, 0);
        CHECK.same("steps of what can't be shown", court.steps(0), -2);
        step(court, 0, -1, -1, -1, -1, -1, -1);
    }

    private static void theFirstOfAlikeSteps() {
        GroundCourt either = court("ground a 1 1;oath o a gives a;bargain p a gives a;", "a or rest");
        step(either, 0, 3, 2, 1, 1, -1, -1);
        step(either, 1, 0, 0, 1, 1, -1, -1);
        GroundCourt split = court("ground a 1 1;ground b 1 1;bargain p a gives a;", "rest * rest");
        step(split, 0, 6, 2, 5, 1, 0, 0);
        step(split, 1, 2, 0, 0, 0, -1, -1);
        step(split, 2, 2, 1, 5, 1, -1, -1);
        GroundCourt deals = court("ground a 1 1;ground b 1 0;bargain p a gives b;oath n a gives a;oath o a gives b;", "b");
        step(deals, 0, 11, 0, 1, 1, -1, -1);
        deals.oath(1, false);
        step(deals, 0, 20, 0, 1, 1, -1, -1);
        step(deals, 1, 0, 0, 4, 0, -1, -1);
        GroundCourt ever = court("ground a 1 0;bargain p a gives a;", "ever nothing");
        step(ever, 0, 7, 1, 0, 1, -1, -1);
        step(ever, 1, 1, 0, 0, 0, -1, -1);
        GroundCourt given = court("ground a 1 0;bargain p a gives a;", "[a] a");
        step(given, 0, 8, 1, 0, 1, -1, -1);
        step(given, 1, 0, 0, 1, 1, -1, -1);
        GroundCourt each = court("ground a 1 1;bargain p a gives a;", "a any rest");
        step(each, 0, 5, 2, 1, 1, -1, -1);
        step(each, 1, 0, 0, 1, 1, -1, -1);
        step(each, 2, 2, 1, 1, 1, -1, -1);
    }

    private static void moves(GroundCourt court, int point, int stock, int bargains, int... steps) {
        String place = point + ", " + stock + ", " + bargains;
        CHECK.same("moves(" + place + ")", court.moves(point, stock, bargains), steps.length);
        for (int i = 0; i < steps.length; i++) {
            CHECK.same("move(" + place + ", " + i + ", 0)", court.move(point, stock, bargains, i, 0), steps[i]);
            CHECK.same("move(" + place + ", " + i + ", 3)", court.move(point, stock, bargains, i, 3), -1);
            CHECK.same("move(" + place + ", " + i + ", -1)", court.move(point, stock, bargains, i, -1), -1);
        }
        for (int what = 0; what < 3; what++) {
            CHECK.same("no move", court.move(point, stock, bargains, steps.length, what), -1);
            CHECK.same("no move", court.move(point, stock, bargains, -1, what), -1);
        }
    }

    private static void theMoves() {
        GroundCourt court = court("ground a 1 1;ground b 1 0;oath o a gives b;oath n b gives a+a;"
                + "bargain p a gives nothing or b;bargain q nothing gives b;",
                "a or nothing or rest or ever a or [b+b] a or (a any b) or a * b");
        moves(court, 0, 1, 3, 0, 10, 20, 21);
        moves(court, 0, 0, 3, 21);
        moves(court, 0, 5, 0, 10, 11);
        moves(court, 0, 5, 2, 10, 11, 21);
        moves(court, 1, 0, 0, 1);
        moves(court, 1, 2, 1, 10, 20);
        moves(court, 1, 6, 0, 10);
        moves(court, 2, 4, 0, 3, 4, 11);
        moves(court, 3, 12, 2, 2, 11);
        moves(court, 6, 0, 0, 7);
        moves(court, 6, 4, 0, 11);
        moves(court, 9, 4, 0, 8, 11);
        moves(court, 9, 8, 0, 11);
        moves(court, 13, 0, 0, 5);
        moves(court, 17, 1, 3, 6, 6, 6, 6, 6, 6, 6, 6, 10, 20, 21);
        moves(court, 17, 13, 1, 6, 6, 6, 6, 6, 6, 6, 6, 6, 6, 6, 6, 6, 6, 6, 6, 11);
        court.oath(0, false);
        moves(court, 0, 1, 3, 0, 20, 21);
    }

    private static void depthsByMoves() {
        GroundCourt court = court("ground a 1 1;ground b 1 0;oath o a gives b;bargain p a gives nothing or b;", "a * b");
        moves(court, 2, 5, 1, 6, 6, 6, 6, 6, 6, 6, 6, 10, 20);
        int[] depths = {0, 0, 2, 2, 0, 0, 0, 0, 0, 0};
        int[] unshown = {place(0, 0, 0), place(0, 0, 1), -2, -2, place(0, 4, 0), place(0, 4, 1), place(0, 5, 0),
            place(0, 5, 1), place(2, 8, 1), place(2, 4, 0)};
        for (int i = 0; i < 10; i++) {
            CHECK.same("depth by " + i, court.move(2, 5, 1, i, 1), depths[i]);
            CHECK.same("unshown of " + i, court.move(2, 5, 1, i, 2), unshown[i]);
        }
        CHECK.same("second place", court.move(2, 6, 0, 1, 2), place(1, 5, 0));
        CHECK.same("both can", court.move(2, 2, 0, 1, 1), 3);
        CHECK.same("both can", court.move(2, 2, 0, 1, 2), -2);
        CHECK.same("by OATH", court.move(1, 1, 0, 0, 1), 2);
        CHECK.same("IS", court.move(0, 1, 0, 0, 1), 1);
        CHECK.same("IS", court.move(0, 1, 0, 0, 2), -2);
        CHECK.same("second case", court.move(1, 1, 1, 1, 2), place(1, 0, 0));
        CHECK.same("second case", court.move(1, 1, 1, 1, 1), 0);
    }

    private static int place(int point, int stock, int bargains) {
        return 2048 * point + 8 * stock + bargains;
    }

    public static void main(String[] args) {
        eachKindOfStep();
        deals();
        noSuchPlaces();
        byWhatThereIs();
        theShowing();
        theShowingOfDeals();
        theFirstOfAlikeSteps();
        theMoves();
        depthsByMoves();
        CHECK.finish("DepthTest");
    }
}
