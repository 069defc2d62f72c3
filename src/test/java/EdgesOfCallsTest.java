/** The promises 1 to 33: each sentence that names a boundary case or a refused call, one test each. */
public final class EdgesOfCallsTest {
    private static final Check CHECK = new Check();
    private static final int MOST = Integer.MAX_VALUE;
    private static final int LEAST = Integer.MIN_VALUE;
    private static final int BLANKS = 0x20202020;

    /** There are a, a, b. Of the CLAIMS k can be shown, m can't. */
    private static final String LAW = "ground a 5 2;ground b 7 1;oath o a gives b;oath n b gives a;"
            + "bargain p a gives b or a+a;bargain q b gives nothing;claim k 10=a*a*b;claim m 2=ever a;claim r 3=rest;";

    private static GroundCourt court() {
        return Check.told(LAW);
    }

    /** Numbers of which there is no such one, if there are so many from 0 on. */
    private static int[] outside(int many) {
        return new int[] {-1, -2, LEAST, many, many + 1, many + 8, 64, 256, 65536, 1 << 30, MOST};
    }

    /** One that is used: a SITTING, a SHOWING that is PASSED, SLOTS, something on the tape, a latest FAULT. */
    private static GroundCourt inUse() {
        GroundCourt court = court();
        court.hold(1);
        court.put(0, 1);
        court.oath(1, false);
        court.bargain(1, false);
        court.sit(2);
        Check.feed(court, "use o rest");
        court.judge(2);
        Check.feed(court, "rest $");
        court.judge(2);
        Check.feed(court, "rest");
        return court;
    }

    private static void newObject() {
        CHECK.about("`GroundCourt()`: Nothing is told.");
        GroundCourt court = new GroundCourt();
        for (int what = 0; what <= 10; what++) {
            CHECK.same("count(" + what + ")", court.count(what), 0);
        }
        CHECK.same("place()", court.place(), -1);
        CHECK.same("passed(0)", court.passed(0), -2);
        CHECK.same("now(0)", court.now(0), -2);
        CHECK.same("go(0)", court.go(0), -1);
        CHECK.same("together(0)", court.together(0), 0);
        CHECK.same("together(1)", court.together(1), 0);
        int[] none = {court.judge(0), court.price(0), court.stock(0), court.pointOf(0), court.point(0, 0), court.depth(0, 0, 0),
            court.can(0), court.stocks(0), court.steps(0), court.step(0, 0, 0), court.moves(0, 0, 0), court.move(0, 0, 0, 0, 0),
            court.lack(0, 0), court.spare(0, 0), court.part(0, 0), court.needed(0, 0), court.lots(0, 0), court.count(20)};
        for (int i = 0; i < none.length; i++) {
            CHECK.same("no such one, " + i, none[i], -1);
        }
        boolean[] no = {court.put(0, 0), court.oath(0, true), court.bargain(0, true), court.sit(0), court.restore(0)};
        for (int i = 0; i < no.length; i++) {
            CHECK.same("no such one, " + i, no[i], false);
        }
        CHECK.same("read of nothing", court.read(), 0);
        CHECK.same("hold(0)", court.hold(0), true);
        CHECK.same("restore(0)", court.restore(0), true);
        CHECK.same("NONE", GroundCourt.NONE, -1);
    }

    private static int feedBlanks(GroundCourt court) {
        return court.feed(BLANKS, BLANKS, BLANKS, BLANKS, BLANKS);
    }

    /** Twenty bytes, all blanks but one. */
    private static int feedOne(GroundCourt court, int at, int sign) {
        int[] words = {BLANKS, BLANKS, BLANKS, BLANKS, BLANKS};
        int shift = 24 - 8 * (at % 4);
        words[at / 4] = words[at / 4] & ~(255 << shift) | sign << shift;
        return court.feed(words[0], words[1], words[2], words[3], words[4]);
    }

    private static void feeding() {
        CHECK.about("Twenty bytes, the highest of a first, come behind the tape: how many it has.");
        for (int at = 0; at < 20; at++) {
            for (int sign : new int[] {0, '$', 127, 128, 255}) {
                GroundCourt court = new GroundCourt();
                CHECK.same("feed", feedBlanks(court), 20);
                CHECK.same("feed", feedOne(court, at, sign), 40);
                CHECK.same("read", court.read(), 1);
                CHECK.same("place of byte " + at, court.place(), 20 + at);
            }
        }
        CHECK.about("NONE, and nothing comes, if it would have more than 2,000.");
        GroundCourt court = new GroundCourt();
        for (int i = 1; i < 100; i++) {
            CHECK.same("feed " + i, feedBlanks(court), 20 * i);
        }
        CHECK.same("feed 100", feedOne(court, 19, '$'), 2000);
        CHECK.same("feed 101", feedOne(court, 0, '#'), -1);
        CHECK.same("tape", court.count(8), 2000);
        CHECK.same("back", court.back(1), 1999);
        CHECK.same("feed with 1,999", feedOne(court, 0, '#'), -1);
        CHECK.same("back", court.back(18), 1981);
        CHECK.same("feed with 1,981", feedOne(court, 0, '#'), -1);
        CHECK.same("tape", court.count(8), 1981);
        CHECK.same("back", court.back(1), 1980);
        CHECK.same("feed with 1,980", feedBlanks(court), 2000);
        CHECK.same("nothing came", court.read(), 0);
    }

    private static void takingBack() {
        CHECK.about("The last n bytes of the tape go: how many it has.");
        GroundCourt court = new GroundCourt();
        feedOne(court, 0, '$');
        CHECK.same("back(0)", court.back(0), 20);
        CHECK.same("back(19)", court.back(19), 1);
        CHECK.same("read", court.read(), 1);
        CHECK.same("place", court.place(), 0);
        feedOne(court, 19, '$');
        CHECK.same("back(1)", court.back(1), 19);
        CHECK.same("read", court.read(), 0);
        feedBlanks(court);
        CHECK.same("back(20)", court.back(20), 0);
        CHECK.same("feed behind it", feedOne(court, 3, '$'), 20);
        CHECK.same("read", court.read(), 1);
        CHECK.same("place", court.place(), 3);
        CHECK.about("NONE, and nothing goes, if it has not so many, or n is below 0.");
        for (int n : new int[] {1, 2, 2000, MOST, -1, LEAST}) {
            CHECK.same("back(" + n + ") of nothing", court.back(n), -1);
        }
        feedOne(court, 19, '$');
        for (int n : new int[] {21, 22, 2000, MOST, -1, -20, LEAST}) {
            CHECK.same("back(" + n + ") of 20", court.back(n), -1);
            CHECK.same("tape", court.count(8), 20);
        }
        CHECK.same("read", court.read(), 1);
        CHECK.same("place", court.place(), 19);
    }

    private static void reading() {
        CHECK.about("The tape, which is empty then, is read as a text: 0, or the number of its FAULT.");
        String[] texts = {"ground a 1 1;", "ground", "claim k 1=(((((((rest", "ground a 1 1;ground a 1 1;", "claim k 1=a;",
            "ground a 0 1;"};
        for (int fault = 0; fault < texts.length; fault++) {
            GroundCourt court = new GroundCourt();
            Check.feed(court, texts[fault]);
            CHECK.same("tape", court.count(8), texts[fault].length());
            CHECK.same("read of " + texts[fault], court.read(), fault);
            CHECK.same("tape", court.count(8), 0);
            CHECK.same("read of nothing", court.read(), 0);
            CHECK.same("nothing is told", court.count(0), 0);
        }
    }

    private static void judging() {
        CHECK.about("It is read as a SHOWING of a CLAIM: 0 it is PASSED, else the number of what is wrong");
        String[] wrong = {"$", "use o use n ".repeat(30) + "is", "use zz", "split a+a+a+a", "is", "split b+b () is",
            "use q use q"};
        int[] faults = {1, 2, 4, 5, 6, 7, 8};
        for (int i = 0; i < wrong.length; i++) {
            GroundCourt court = court();
            Check.feed(court, wrong[i]);
            CHECK.same("judge of " + wrong[i], court.judge(0), faults[i]);
            CHECK.same("tape", court.count(8), 0);
        }
        CHECK.showing(court(), 0, "split a+a () split a () is is is", 0, -1);
        CHECK.showing(court(), 2, "rest", 0, -1);
        CHECK.about("NONE, and the tape stays: no such one.");
        for (int claim : outside(3)) {
            GroundCourt court = inUse();
            String before = State.andPlace(court);
            CHECK.same("judge(" + claim + ")", court.judge(claim), -1);
            CHECK.same("state", State.andPlace(court), before);
            CHECK.same("tape", court.count(8), 4);
            CHECK.same("judge(2) of what stayed", court.judge(2), 0);
        }
    }

    private static void placeOfFaults() {
        CHECK.about("The byte of the latest read()'s or judge()'s FAULT; NONE without.");
        GroundCourt court = new GroundCourt();
        CHECK.same("without any", court.place(), -1);
        Check.feed(court, "ground $");
        court.read();
        CHECK.same("of a text", court.place(), 7);
        CHECK.same("once more", court.place(), 7);
        Check.feed(court, LAW);
        court.read();
        CHECK.same("of a text without", court.place(), -1);
        Check.feed(court, "use $");
        court.judge(2);
        CHECK.same("of a SHOWING", court.place(), 4);
        court.put(0, 1);
        court.sit(2);
        CHECK.same("still of the SHOWING", court.place(), 4);
        Check.feed(court, "rest");
        court.judge(2);
        CHECK.same("of a SHOWING without", court.place(), -1);
        Check.feed(court, "$");
        court.judge(2);
        CHECK.same("the first byte", court.place(), 0);
        court.read();
        CHECK.same("of a text of nothing", court.place(), -1);
        Check.feed(court, "claim");
        court.read();
        CHECK.same("the text's end", court.place(), 5);
    }

    private static void passedLast() {
        CHECK.about("Of the SHOWING that was PASSED last (a text takes it away)");
        GroundCourt court = court();
        CHECK.showing(court, 2, "use o use n rest", 0, -1);
        passed(court, 3, 3, 2);
        CHECK.showing(court, 2, "use o use n is", 6, 12);
        passed(court, 3, 3, 2);
        CHECK.showing(court, 0, "split a+a () split a () is is is", 0, -1);
        passed(court, 5, 3, 0);
        CHECK.showing(court, 2, "rest", 0, -1);
        passed(court, 1, 1, 0);
        CHECK.showing(court, 0, "split a+a () split a () is is is", 0, -1);
        passed(court, 5, 3, 0);
        court.put(0, 0);
        court.judge(7);
        passed(court, 5, 3, 0);
        Check.feed(court, "$");
        court.read();
        passed(court, 5, 3, 0);
        court.read();
        passed(court, -2, -2, -2);
        Check.feed(court, LAW);
        court.read();
        CHECK.about("what 0 how many steps, 1 its DEPTH, 2 IDLE steps. -2: none; NONE for others.");
        passed(court, -2, -2, -2);
        CHECK.showing(court, 2, "$", 1, 0);
        passed(court, -2, -2, -2);
        for (int what : outside(3)) {
            CHECK.same("passed(" + what + ") without", court.passed(what), -1);
        }
        CHECK.showing(court, 2, "use p rest use o use n rest", 0, -1);
        passed(court, 5, 4, 2);
        for (int what : outside(3)) {
            CHECK.same("passed(" + what + ")", court.passed(what), -1);
        }
    }

    private static void passed(GroundCourt court, int steps, int depth, int idle) {
        CHECK.same("passed(0)", court.passed(0), steps);
        CHECK.same("passed(1)", court.passed(1), depth);
        CHECK.same("passed(2)", court.passed(2), idle);
    }

    private static void groundsOfTheStock() {
        GroundCourt court = court();
        CHECK.about("PRICE of a GROUND; NONE: no such one.");
        CHECK.same("price(0)", court.price(0), 5);
        CHECK.same("price(1)", court.price(1), 7);
        for (int ground : outside(2)) {
            CHECK.same("price(" + ground + ")", court.price(ground), -1);
        }
        CHECK.about("How many there are of a GROUND; NONE: no such one.");
        CHECK.same("stock(0)", court.stock(0), 2);
        CHECK.same("stock(1)", court.stock(1), 1);
        for (int ground : outside(2)) {
            CHECK.same("stock(" + ground + ")", court.stock(ground), -1);
        }
        GroundCourt four = Check.told("ground a 1 0;ground b 2 1;ground c 3 2;ground d 99 3;");
        CHECK.same("price(3)", four.price(3), 99);
        CHECK.same("stock(3)", four.stock(3), 3);
        CHECK.same("price(4)", four.price(4), -1);
        CHECK.same("stock(4)", four.stock(4), -1);
    }

    private static void putting() {
        CHECK.about("There are n (0 .. 3) of a GROUND: true; false: no such ones.");
        GroundCourt court = Check.told("ground a 1 1;ground b 1 2;ground c 1 0;ground d 1 3;");
        for (int ground = 0; ground < 4; ground++) {
            for (int n : new int[] {3, 0, 2, 1}) {
                int others = court.count(5) & ~(3 << 2 * ground);
                CHECK.same("put", court.put(ground, n), true);
                CHECK.same("stock", court.stock(ground), n);
                CHECK.same("STOCK", court.count(5), others + (n << 2 * ground));
            }
        }
        GroundCourt used = inUse();
        String before = State.andPlace(used);
        for (int n : outside(4)) {
            CHECK.same("put(0, " + n + ")", used.put(0, n), false);
        }
        for (int ground : outside(2)) {
            CHECK.same("put(" + ground + ", 3)", used.put(ground, 3), false);
            CHECK.same("put(" + ground + ", 0)", used.put(ground, 0), false);
        }
        CHECK.same("state", State.andPlace(used), before);
    }

    private static void holding() {
        CHECK.about("An OATH holds, or not: true; false: no such one.");
        GroundCourt court = inUse();
        String before = State.andPlace(court);
        for (int oath : outside(2)) {
            CHECK.same("oath(" + oath + ", true)", court.oath(oath, true), false);
            CHECK.same("oath(" + oath + ", false)", court.oath(oath, false), false);
        }
        CHECK.about("A BARGAIN is at hand (not made yet), or not: true; false: no such one.");
        for (int bargain : outside(2)) {
            CHECK.same("bargain(" + bargain + ", true)", court.bargain(bargain, true), false);
            CHECK.same("bargain(" + bargain + ", false)", court.bargain(bargain, false), false);
        }
        CHECK.same("state", State.andPlace(court), before);
        GroundCourt three = Check.told("oath a nothing gives nothing;oath b nothing gives nothing;oath c nothing gives nothing;"
                + "bargain d nothing gives nothing;bargain e nothing gives nothing;bargain f nothing gives nothing;");
        int set = 7;
        for (int bit : new int[] {1, 1, 0, 2, 2}) {
            set &= ~(1 << bit);
            CHECK.same("oath off", three.oath(bit, false), true);
            CHECK.same("bargain off", three.bargain(bit, false), true);
            CHECK.same("OATHS", three.count(6), set);
            CHECK.same("BARGAINS", three.count(7), set);
        }
        for (int bit : new int[] {2, 2, 0, 1}) {
            set |= 1 << bit;
            CHECK.same("oath on", three.oath(bit, true), true);
            CHECK.same("bargain on", three.bargain(bit, true), true);
            CHECK.same("OATHS", three.count(6), set);
            CHECK.same("BARGAINS", three.count(7), set);
        }
    }

    private static void pointsOfClaims() {
        CHECK.about("The POINT that a CLAIM is in all; NONE: no such one.");
        GroundCourt court = court();
        int[] roots = {4, 6, 7};
        for (int claim = 0; claim < 3; claim++) {
            CHECK.same("pointOf(" + claim + ")", court.pointOf(claim), roots[claim]);
        }
        for (int claim : outside(3)) {
            CHECK.same("pointOf(" + claim + ")", court.pointOf(claim), -1);
        }
        CHECK.about("Of a POINT: what 0: 0 a NAME, 1 nothing, 2 rest, 3 or, 4 any, 5 '*', 6 ever, 7 [ ], 1 its GROUND, or its"
                + " (first) part, 2 the second part ([ ]: the number of its SIDE). NONE for others, for what it has not.");
        GroundCourt kinds = Check.told("ground a 1 0;ground b 1 0;ground c 1 0;ground d 1 0;"
                + "claim k 1=d or nothing;claim m 1=rest any ever b;claim n 1=[a+a+a+b+b+b+c+c+c+d+d+d](c*[nothing]a);");
        int[][] due = {{0, 3, -1}, {1, -1, -1}, {3, 0, 1}, {2, -1, -1}, {0, 1, -1}, {6, 4, -1}, {4, 3, 5}, {0, 2, -1},
            {0, 0, -1}, {7, 8, 0}, {5, 7, 9}, {7, 10, 255}};
        for (int point = 0; point < due.length; point++) {
            for (int what = 0; what < 3; what++) {
                CHECK.same("point(" + point + ", " + what + ")", kinds.point(point, what), due[point][what]);
            }
            CHECK.same("point(" + point + ", 3)", kinds.point(point, 3), -1);
        }
        for (int what : outside(3)) {
            CHECK.same("point(2, " + what + ")", kinds.point(2, what), -1);
        }
        for (int point : outside(due.length)) {
            CHECK.same("point(" + point + ", 0)", kinds.point(point, 0), -1);
            CHECK.same("point(" + point + ", 1)", kinds.point(point, 1), -1);
        }
    }

    private static final String[] FOUR = {"ground a 1 0;", "ground b 1 0;", "ground c 1 0;", "ground d 1 0;"};
    private static final String[] THREE = {"bargain p nothing gives nothing;", "bargain q nothing gives nothing;",
        "bargain r nothing gives nothing;"};

    /** With so many GROUNDS and BARGAINS, and CLAIMS 'rest' and 'ever nothing'. */
    private static GroundCourt sized(int grounds, int bargains) {
        StringBuilder text = new StringBuilder();
        for (int i = 0; i < grounds; i++) {
            text.append(FOUR[i]);
        }
        for (int i = 0; i < bargains; i++) {
            text.append(THREE[i]);
        }
        return Check.told(text + "claim k 1=rest;claim m 1=ever nothing;");
    }

    private static void depths() {
        CHECK.about("DEPTH of a POINT with a STOCK (its number) and BARGAINS (bits), by the OATHS that hold; 0: it can't be"
                + " shown; NONE: no such ones.");
        for (int grounds = 0; grounds <= 4; grounds++) {
            for (int bargains = 0; bargains <= 3; bargains++) {
                GroundCourt court = sized(grounds, bargains);
                int stocks = 1 << 2 * grounds;
                int sets = 1 << bargains;
                CHECK.same("the greatest", court.depth(0, stocks - 1, sets - 1), 1);
                CHECK.same("the least", court.depth(2, 0, 0), 2);
                CHECK.same("can't be shown", court.depth(2, stocks - 1, 0), grounds == 0 ? 2 : 0);
                for (int stock : outside(stocks)) {
                    boolean is = stock >= 0 && stock < stocks;
                    CHECK.same("depth(0, " + stock + ", 0)", court.depth(0, stock, 0), is ? 1 : -1);
                }
                for (int set : outside(sets)) {
                    CHECK.same("depth(0, 0, " + set + ")", court.depth(0, 0, set), -1);
                }
                for (int point : outside(3)) {
                    CHECK.same("depth(" + point + ", 0, 0)", court.depth(point, 0, 0), -1);
                    CHECK.same("moves(" + point + ", 0, 0)", court.moves(point, 0, 0), -1);
                }
            }
        }
        GroundCourt court = Check.told("ground a 1 1;ground b 1 0;oath o a gives b;bargain p a gives b;claim k 1=b;");
        CHECK.same("by the OATH", court.depth(0, 1, 0), 2);
        court.oath(0, false);
        CHECK.same("without", court.depth(0, 1, 0), 0);
        court.bargain(0, false);
        CHECK.same("BARGAINS as asked for", court.depth(0, 1, 1), 2);
    }

    private static void whatCanBeShown() {
        GroundCourt court = court();
        CHECK.about("DEPTH of a CLAIM with what there is; -2: it can't be shown; NONE: no such one.");
        CHECK.same("can(0)", court.can(0), 3);
        CHECK.same("can(1)", court.can(1), -2);
        CHECK.same("can(2)", court.can(2), 1);
        CHECK.about("With how many of all STOCKS (of the GROUNDS there are) a CLAIM can be shown, with the BARGAINS at hand;"
                + " NONE: no such one.");
        CHECK.same("stocks(1)", court.stocks(1), 0);
        CHECK.same("stocks(2)", court.stocks(2), 16);
        for (int grounds = 0; grounds <= 4; grounds++) {
            CHECK.same("all STOCKS", sized(grounds, 0).stocks(0), 1 << 2 * grounds);
            CHECK.same("the empty STOCK", sized(grounds, 0).stocks(1), 1);
        }
        GroundCourt bargain = Check.told("ground a 1 1;ground b 1 0;bargain p a gives b;bargain q b gives a;claim k 1=b;");
        CHECK.same("with all BARGAINS", bargain.stocks(0), 2);
        bargain.bargain(0, false);
        CHECK.same("with one", bargain.stocks(0), 1);
        CHECK.about("How many steps THE SHOWING of a CLAIM has; -2: it can't be shown; NONE: no such one.");
        CHECK.same("steps(0)", court.steps(0), 5);
        CHECK.same("steps(1)", court.steps(1), -2);
        CHECK.same("steps(2)", court.steps(2), 1);
        for (int claim : outside(3)) {
            CHECK.same("can(" + claim + ")", court.can(claim), -1);
            CHECK.same("stocks(" + claim + ")", court.stocks(claim), -1);
            CHECK.same("steps(" + claim + ")", court.steps(claim), -1);
        }
    }

    /** A STOCK of one a that must become what shows a CLAIM by one OATH, or one BARGAIN. */
    private static void firstStep(String deals, String claim, int due) {
        GroundCourt court = Check.told("ground a 1 1;ground b 1 0;" + deals + "claim k 1=" + claim + ";");
        CHECK.same("step(0, 0, 0) of " + claim, court.step(0, 0, 0), due);
        court.sit(0);
        CHECK.same("now(0) of " + claim, court.now(0), due);
    }

    private static void kindsOfSteps() {
        CHECK.about("what 0: 0 IS, 1 NONE, 2 REST, 3 LEFT, 4 RIGHT, 5 EACH, 6 SPLIT, 7 EVER, 8 GIVEN, 10 and an OATH, 20 and a"
                + " BARGAIN");
        firstStep("", "a", 0);
        firstStep("", "rest", 2);
        firstStep("", "a or b", 3);
        firstStep("", "b or a", 4);
        firstStep("", "a any a", 5);
        firstStep("", "a*nothing", 6);
        firstStep("", "[b](a*b)", 8);
        GroundCourt empty = Check.told("claim k 1=ever nothing;");
        CHECK.same("EVER", empty.step(0, 0, 0), 7);
        CHECK.same("NONE", empty.step(0, 1, 0), 1);
        String[] names = {"p", "q", "r"};
        for (int deal = 0; deal < 3; deal++) {
            StringBuilder oaths = new StringBuilder();
            StringBuilder bargains = new StringBuilder();
            for (int i = 0; i < 3; i++) {
                String sides = " a gives " + (i == deal ? "b;" : "a;");
                oaths.append("oath ").append(names[i]).append(sides);
                bargains.append("bargain ").append(names[i]).append(sides);
            }
            firstStep(oaths.toString(), "b", 10 + deal);
            firstStep(bargains.toString(), "b", 20 + deal);
        }
    }

    private static void stepsOfTheShowing() {
        CHECK.about("4 SPLIT: the number for the first part, 5 SPLIT: its BARGAINS (NONE for others). NONE: not so many, it"
                + " can't be shown, no such ones.");
        GroundCourt court = court();
        int[][] due = {{6, 4, 6, 3, 2, 0}, {6, 2, 2, 0, 1, 0}, {0, 0, 1, 0, -1, -1}, {0, 1, 1, 0, -1, -1}, {0, 3, 4, 3, -1, -1}};
        for (int i = 0; i < due.length; i++) {
            for (int what = 0; what < 6; what++) {
                CHECK.same("step(0, " + i + ", " + what + ")", court.step(0, i, what), due[i][what]);
            }
        }
        for (int what : outside(6)) {
            CHECK.same("step(0, 0, " + what + ")", court.step(0, 0, what), -1);
            CHECK.same("step(1, 0, " + what + ")", court.step(1, 0, what), -1);
        }
        for (int i : outside(due.length)) {
            CHECK.same("step(0, " + i + ", 0)", court.step(0, i, 0), -1);
            CHECK.same("step(0, " + i + ", 4)", court.step(0, i, 4), -1);
        }
        for (int what = 0; what < 6; what++) {
            CHECK.same("step(1, 0, " + what + ")", court.step(1, 0, what), -1);
            CHECK.same("step(2, 1, " + what + ")", court.step(2, 1, what), -1);
        }
        for (int claim : outside(3)) {
            CHECK.same("step(" + claim + ", 0, 0)", court.step(claim, 0, 0), -1);
        }
    }

    private static void movesOfPlaces() {
        CHECK.about("How many MOVES a place has, by the OATHS that hold; NONE: no such ones.");
        GroundCourt court = court();
        CHECK.same("moves", court.moves(7, 6, 3), 5);
        court.oath(1, false);
        CHECK.same("moves", court.moves(7, 6, 3), 4);
        CHECK.same("moves", court.moves(7, 6, 0), 2);
        CHECK.same("moves", court.moves(7, 0, 3), 1);
        CHECK.same("no MOVES", court.moves(0, 0, 0), 0);
        for (int stock : outside(16)) {
            CHECK.same("moves(0, " + stock + ", 0)", court.moves(0, stock, 0), -1);
            CHECK.same("move(7, " + stock + ", 0)", court.move(7, stock, 0, 0, 0), -1);
        }
        for (int set : outside(4)) {
            CHECK.same("moves(0, 0, " + set + ")", court.moves(0, 0, set), -1);
            CHECK.same("move(7, 0, " + set + ")", court.move(7, 0, set, 0, 0), -1);
        }
        for (int point : outside(8)) {
            CHECK.same("moves(" + point + ", 0, 0)", court.moves(point, 0, 0), -1);
            CHECK.same("move(" + point + ", 0, 0)", court.move(point, 0, 0, 0, 0), -1);
        }
        CHECK.about("1 the DEPTH by it (0: it can't be shown by it), 2 the first place that it leads to and that can't be"
                + " shown: 2048 * the POINT + 8 * the STOCK + the BARGAINS (-2: none). NONE: not so many, no such ones.");
        CHECK.same("IS", court.move(0, 1, 3, 0, 0), 0);
        CHECK.same("DEPTH by IS", court.move(0, 1, 3, 0, 1), 1);
        CHECK.same("IS leads to none", court.move(0, 1, 3, 0, 2), -2);
        CHECK.same("DEPTH by OATH", court.move(0, 1, 3, 1, 1), 0);
        CHECK.same("OATH leads", court.move(0, 1, 3, 1, 2), 8 * 4 + 3);
        CHECK.same("DEPTH by BARGAIN", court.move(0, 1, 3, 2, 1), 0);
        CHECK.same("BARGAIN leads", court.move(0, 1, 3, 2, 2), 8 * 4 + 2);
        CHECK.same("the second place", court.move(3, 1, 1, 1, 2), 2048 * 3 + 8 * 2);
        CHECK.same("EVER leads", court.move(6, 0, 3, 0, 2), 2048 * 5);
        CHECK.same("a split", court.move(4, 6, 0, 1, 2), 2048 * 2 + 8);
        CHECK.same("DEPTH by a split", court.move(4, 6, 0, 1, 1), 0);
        CHECK.same("the next split", court.move(4, 6, 0, 2, 2), -2);
        CHECK.same("DEPTH by the next split", court.move(4, 6, 0, 2, 1), 3);
        for (int what = 0; what < 3; what++) {
            for (int i : outside(3)) {
                CHECK.same("move(0, 1, 3, " + i + ", " + what + ")", court.move(0, 1, 3, i, what), -1);
            }
            CHECK.same("of no MOVES", court.move(0, 0, 0, 0, what), -1);
        }
        for (int what : outside(3)) {
            CHECK.same("move(0, 1, 3, 0, " + what + ")", court.move(0, 1, 3, 0, what), -1);
            CHECK.same("move(0, 0, 0, 0, " + what + ")", court.move(0, 0, 0, 0, what), -1);
        }
    }

    private static void lackAndSpare() {
        GroundCourt court = court();
        CHECK.about("LACK: what 0 its PRICE, 1 the number of what is put to it; -2: it can't be; NONE: no such ones.");
        CHECK.same("lack(0, 0)", court.lack(0, 0), 0);
        CHECK.same("lack(0, 1)", court.lack(0, 1), 0);
        CHECK.same("lack(1, 0)", court.lack(1, 0), -2);
        CHECK.same("lack(1, 1)", court.lack(1, 1), -2);
        CHECK.about("SPARE: what 0 its PRICE, 1 the number of what is taken out; -2: it can't be; NONE: no such ones.");
        CHECK.same("spare(0, 0)", court.spare(0, 0), 0);
        CHECK.same("spare(0, 1)", court.spare(0, 1), 0);
        CHECK.same("spare(1, 0)", court.spare(1, 0), -2);
        CHECK.same("spare(1, 1)", court.spare(1, 1), -2);
        CHECK.same("spare(2, 0)", court.spare(2, 0), 17);
        CHECK.same("spare(2, 1)", court.spare(2, 1), 6);
        for (int claim : outside(3)) {
            CHECK.same("lack(" + claim + ", 0)", court.lack(claim, 0), -1);
            CHECK.same("spare(" + claim + ", 1)", court.spare(claim, 1), -1);
        }
        for (int what : outside(2)) {
            for (int claim = 0; claim < 2; claim++) {
                CHECK.same("lack(" + claim + ", " + what + ")", court.lack(claim, what), -1);
                CHECK.same("spare(" + claim + ", " + what + ")", court.spare(claim, what), -1);
            }
        }
    }

    private static void togetherAndParts() {
        GroundCourt court = court();
        GroundCourt none = Check.told("ground a 1 1;claim k 1=nothing;");
        CHECK.about("TOGETHER: what 0 the WORTH, 1 the CLAIMS (bits); -2: there is none; NONE for others.");
        CHECK.same("together(0)", court.together(0), 13);
        CHECK.same("together(1)", court.together(1), 5);
        CHECK.same("together(0) of none", none.together(0), -2);
        CHECK.same("together(1) of none", none.together(1), -2);
        for (int what : outside(2)) {
            CHECK.same("together(" + what + ")", court.together(what), -1);
            CHECK.same("together(" + what + ") of none", none.together(what), -1);
        }
        CHECK.about("PARTS: of a CLAIM of it: what 0 the number of its STOCK, 1 its BARGAINS; -2: it is none of it; NONE: no"
                + " such ones.");
        CHECK.same("part(0, 0)", court.part(0, 0), 6);
        CHECK.same("part(0, 1)", court.part(0, 1), 0);
        CHECK.same("part(1, 0)", court.part(1, 0), -2);
        CHECK.same("part(1, 1)", court.part(1, 1), -2);
        CHECK.same("part(2, 0)", court.part(2, 0), 0);
        CHECK.same("part(2, 1)", court.part(2, 1), 0);
        CHECK.same("part(0, 0) of none", none.part(0, 0), -2);
        for (int claim : outside(3)) {
            CHECK.same("part(" + claim + ", 0)", court.part(claim, 0), -1);
            CHECK.same("part(" + claim + ", 1) of none", none.part(claim == 3 ? 1 : claim, 1), -1);
        }
        for (int what : outside(2)) {
            CHECK.same("part(0, " + what + ")", court.part(0, what), -1);
            CHECK.same("part(1, " + what + ")", court.part(1, what), -1);
        }
    }

    private static void whatIsNeeded() {
        CHECK.about("NEEDED: what 0 how many, 1 the OATHS, 2 the BARGAINS (bits); -2: it can't be shown; NONE: no such ones.");
        GroundCourt court = court();
        for (int what = 0; what < 3; what++) {
            CHECK.same("needed(0, " + what + ")", court.needed(0, what), 0);
            CHECK.same("needed(1, " + what + ")", court.needed(1, what), -2);
        }
        for (int what : outside(3)) {
            CHECK.same("needed(0, " + what + ")", court.needed(0, what), -1);
            CHECK.same("needed(1, " + what + ")", court.needed(1, what), -1);
        }
        for (int claim : outside(3)) {
            CHECK.same("needed(" + claim + ", 0)", court.needed(claim, 0), -1);
        }
    }

    private static void sittingDown() {
        CHECK.about("A SITTING begins, for a CLAIM, with what there is: true; false, and nothing happens: no such one, it can't"
                + " be shown. (What is put, what holds later does not matter to it.)");
        GroundCourt court = inUse();
        String before = State.andPlace(court);
        for (int claim : outside(3)) {
            CHECK.same("sit(" + claim + ")", court.sit(claim), false);
        }
        CHECK.same("sit(1)", court.sit(1), false);
        CHECK.same("state", State.andPlace(court), before);
        GroundCourt later = Check.told("ground a 1 1;ground b 1 0;oath o a gives b;bargain p b gives a+a;claim k 1=a*a;");
        CHECK.same("sit(0)", later.sit(0), true);
        later.oath(0, false);
        later.bargain(0, false);
        later.put(0, 3);
        later.put(1, 3);
        later.hold(0);
        CHECK.same("can't be shown now", later.can(0), -2);
        CHECK.same("sit(0)", later.sit(0), false);
        int[] steps = {10, 20, 6, 0, 0};
        int[] places = {1, 1, 2, 1, 0};
        for (int i = 0; i < steps.length; i++) {
            CHECK.same("now(0)", later.now(0), steps[i]);
            CHECK.same("go", later.go(0), places[i]);
            later.restore(0);
        }
        CHECK.same("STOCK stays", later.count(5), 15);
        CHECK.same("BARGAINS stay", later.count(7), 0);
        GroundCourt anew = court();
        anew.sit(0);
        anew.go(0);
        CHECK.same("places", anew.count(10), 2);
        CHECK.same("sit(2)", anew.sit(2), true);
        CHECK.same("places", anew.count(10), 1);
        CHECK.same("now(1)", anew.now(1), 7);
    }

    private static void stepToBeDone() {
        CHECK.about("The step that is to be done (as step() tells it, what 0 .. 5); -2: all is shown, no SITTING; NONE for"
                + " others.");
        GroundCourt court = court();
        for (int what = 0; what < 6; what++) {
            CHECK.same("now(" + what + ") without", court.now(what), -2);
        }
        for (int what : outside(6)) {
            CHECK.same("now(" + what + ") without", court.now(what), -1);
        }
        int steps = court.steps(0);
        court.sit(0);
        for (int i = 0; i < steps; i++) {
            for (int what = 0; what < 6; what++) {
                CHECK.same("now(" + what + ")", court.now(what), court.step(0, i, what));
            }
            for (int what : outside(6)) {
                CHECK.same("now(" + what + ")", court.now(what), -1);
            }
            court.go(0);
        }
        for (int what = 0; what < 6; what++) {
            CHECK.same("now(" + what + ") at the end", court.now(what), -2);
        }
        CHECK.same("now(6) at the end", court.now(6), -1);
    }

    private static void goingOn() {
        CHECK.about("It is done, with an answer (0 the first SIDE, 1 the second one; else it does not matter): how many places"
                + " must still be shown. NONE, and nothing happens: nothing is to be shown, no such answer for a BARGAIN with"
                + " two SIDES.");
        GroundCourt court = court();
        for (int answer : new int[] {0, 1, 2, -1, MOST, LEAST}) {
            CHECK.same("go(" + answer + ") without", court.go(answer), -1);
        }
        court.sit(2);
        CHECK.same("go(least)", court.go(LEAST), 0);
        CHECK.same("go(0) at the end", court.go(0), -1);
        CHECK.same("go(1) at the end", court.go(1), -1);
        for (int answer = 0; answer < 2; answer++) {
            GroundCourt two = Check.told("ground a 1 1;ground b 1 0;ground c 1 0;bargain p a gives b or c+c;claim k 1=b or c*c;");
            two.sit(0);
            String before = State.andPlace(two);
            for (int none : outside(2)) {
                CHECK.same("go(" + none + ")", two.go(none), -1);
            }
            CHECK.same("state", State.andPlace(two), before);
            CHECK.same("go(" + answer + ")", two.go(answer), 1);
            CHECK.same("now(2)", two.now(2), answer == 0 ? 4 : 32);
            CHECK.same("go(most)", two.go(MOST), 1);
            CHECK.same("go(least)", two.go(LEAST), answer == 0 ? 0 : 2);
        }
    }

    private static void byLots() {
        CHECK.about("A SITTING for a CLAIM BY LOTS (the one that is stays): how many steps it takes; -2: it can't be shown;"
                + " NONE: no such one.");
        GroundCourt court = inUse();
        String before = State.andPlace(court);
        for (int seed : new int[] {0, 1, -1, MOST, LEAST}) {
            CHECK.same("lots(2, " + seed + ")", court.lots(2, seed), 1);
            CHECK.same("lots(1, " + seed + ")", court.lots(1, seed), -2);
            for (int claim : outside(3)) {
                CHECK.same("lots(" + claim + ", " + seed + ")", court.lots(claim, seed), -1);
            }
        }
        CHECK.same("state", State.andPlace(court), before);
        GroundCourt none = court();
        none.lots(0, 5);
        CHECK.same("no SITTING", none.count(10), 0);
        CHECK.same("no SITTING", none.now(0), -2);
    }

    private static void slots() {
        CHECK.about("STOCK, OATHS and BARGAINS are held in a SLOT (0 .. 2): true; false: no such one.");
        GroundCourt court = inUse();
        String before = State.andPlace(court);
        for (int slot : outside(3)) {
            CHECK.same("hold(" + slot + ")", court.hold(slot), false);
            CHECK.same("restore(" + slot + ")", court.restore(slot), false);
        }
        CHECK.about("They go on from what a SLOT holds (that stays there): true; false, and nothing happens: no such one,"
                + " nothing is held.");
        CHECK.same("restore(0)", court.restore(0), false);
        CHECK.same("restore(2)", court.restore(2), false);
        CHECK.same("state", State.andPlace(court), before);
        for (int time = 0; time < 2; time++) {
            court.put(1, 3);
            CHECK.same("restore(1)", court.restore(1), true);
            CHECK.same("STOCK", court.count(5), 6);
            CHECK.same("OATHS", court.count(6), 3);
            CHECK.same("BARGAINS", court.count(7), 3);
            CHECK.same("the SITTING stays", court.now(2), 5);
            CHECK.same("the tape stays", court.count(8), 4);
            CHECK.same("SLOTS", court.count(9), 1);
        }
        for (int slot = 0; slot < 3; slot++) {
            court.put(0, slot);
            CHECK.same("hold(" + slot + ")", court.hold(slot), true);
            CHECK.same("SLOTS", court.count(9), slot < 1 ? 2 : slot + 1);
        }
        for (int slot = 2; slot >= 0; slot--) {
            CHECK.same("restore(" + slot + ")", court.restore(slot), true);
            CHECK.same("stock(0)", court.stock(0), slot);
        }
        CHECK.same("SLOTS", court.count(9), 3);
    }

    private static void counts() {
        CHECK.about("0 GROUNDS, 1 OATHS, 2 BARGAINS, 3 CLAIMS, 4 POINTS, 5 the number of the STOCK, 6 OATHS that hold (bits),"
                + " 7 BARGAINS at hand (bits), 8 bytes on the tape, 9 SLOTS that hold something, 10 places of the SITTING,"
                + " 20 and a CLAIM: its WORTH. NONE for others.");
        GroundCourt court = inUse();
        int[] due = {2, 2, 2, 3, 8, 5, 1, 1, 4, 1, 1};
        for (int what = 0; what < due.length; what++) {
            CHECK.same("count(" + what + ")", court.count(what), due[what]);
        }
        int[] worths = {10, 2, 3};
        for (int claim = 0; claim < 3; claim++) {
            CHECK.same("count(" + (20 + claim) + ")", court.count(20 + claim), worths[claim]);
        }
        for (int what : new int[] {-1, 11, 12, 18, 19, 23, 24, 25, 26, 30, 40, 276, MOST, LEAST, LEAST + 20}) {
            CHECK.same("count(" + what + ")", court.count(what), -1);
        }
        GroundCourt six = Check.told("claim a 0=rest;claim b 1=rest;claim c 2=rest;claim d 3=rest;claim e 4=rest;claim f 99=rest;");
        CHECK.same("count(25)", six.count(25), 99);
        CHECK.same("count(26)", six.count(26), -1);
    }

    public static void main(String[] args) {
        newObject();
        feeding();
        takingBack();
        reading();
        judging();
        placeOfFaults();
        passedLast();
        groundsOfTheStock();
        putting();
        holding();
        pointsOfClaims();
        depths();
        whatCanBeShown();
        kindsOfSteps();
        stepsOfTheShowing();
        movesOfPlaces();
        lackAndSpare();
        togetherAndParts();
        whatIsNeeded();
        sittingDown();
        stepToBeDone();
        goingOn();
        byLots();
        slots();
        counts();
        CHECK.finish("EdgesOfCallsTest");
    }
}
