/** Promises 1 to 4, 6, 13, 14 and 33: the tape, texts and their FAULTS, what a text tells. */
public final class TextTest {
    private static final Check CHECK = new Check();

    private static void newObject() {
        GroundCourt court = new GroundCourt();
        for (int what = 0; what <= 10; what++) {
            CHECK.same("count(" + what + ") of a new object", court.count(what), 0);
        }
        CHECK.same("count(-1)", court.count(-1), -1);
        CHECK.same("count(11)", court.count(11), -1);
        CHECK.same("count(19)", court.count(19), -1);
        CHECK.same("count(20)", court.count(20), -1);
        CHECK.same("place() of a new object", court.place(), -1);
        CHECK.same("passed(0) of a new object", court.passed(0), -2);
        CHECK.same("can(0) of a new object", court.can(0), -1);
        CHECK.same("depth of a new object", court.depth(0, 0, 0), -1);
        CHECK.same("together(0) of a new object", court.together(0), 0);
        CHECK.same("hold(0) of a new object", court.hold(0), true);
        CHECK.same("restore(0) of a new object", court.restore(0), true);
        CHECK.same("put of a new object", court.put(0, 0), false);
        CHECK.same("NONE", GroundCourt.NONE, -1);
    }

    private static void tape() {
        GroundCourt court = new GroundCourt();
        CHECK.same("back(0) with nothing", court.back(0), 0);
        CHECK.same("back(1) with nothing", court.back(1), -1);
        for (int i = 1; i <= 100; i++) {
            CHECK.same("feed " + i, court.feed(0x20202020, 0x20202020, 0x20202020, 0x20202020, 0x20202020), 20 * i);
        }
        CHECK.same("feed beyond 2,000", court.feed(0, 0, 0, 0, 0), -1);
        CHECK.same("tape", court.count(8), 2000);
        CHECK.same("back(-1)", court.back(-1), -1);
        CHECK.same("back(least)", court.back(Integer.MIN_VALUE), -1);
        CHECK.same("back(2001)", court.back(2001), -1);
        CHECK.same("back(19)", court.back(19), 1981);
        CHECK.same("feed with no room", court.feed(0, 0, 0, 0, 0), -1);
        CHECK.same("back(1)", court.back(1), 1980);
        CHECK.same("feed with room", court.feed(0x20202020, 0x20202020, 0x20202020, 0x20202020, 0x20202024), 2000);
        CHECK.same("read", court.read(), 1);
        CHECK.same("the last byte is the lowest of e", court.place(), 1999);
        CHECK.same("tape behind read", court.count(8), 0);
        CHECK.same("feed anew", court.feed(0x24202020, 0, 0, 0, 0), 20);
        CHECK.same("read", court.read(), 1);
        CHECK.same("the first byte is the highest of a", court.place(), 0);
        CHECK.same("feed of high bytes", court.feed(0x20E92020, -1, -1, -1, -1), 20);
        CHECK.same("read", court.read(), 1);
        CHECK.same("a high byte is no TOKEN", court.place(), 1);
    }

    private static void syntax() {
        CHECK.text("", 0, -1);
        CHECK.text(" \t\n\r ", 0, -1);
        CHECK.text(" \u000b", 1, 1);
        CHECK.text("ground", 1, 6);
        CHECK.text("ground a 5 2", 1, 12);
        CHECK.text("ground a 5 2  ", 1, 14);
        CHECK.text("ground a 5 2;", 0, -1);
        CHECK.text("ground a5 2;", 0, -1);
        CHECK.text("ground a 5 2;;", 1, 13);
        CHECK.text("grounda 5 2;", 1, 0);
        CHECK.text("ground abcdefgh 5 2;", 0, -1);
        CHECK.text("ground abcdefghi 5 2;", 1, 7);
        CHECK.text("ground a 0005 0002;", 0, -1);
        CHECK.text("ground a 00005 2;", 1, 9);
        CHECK.text("ground a 5;", 1, 10);
        CHECK.text("ground a 5 ground b 1 1;", 1, 11);
        CHECK.text("ground ground b 1 1;", 1, 7);
        CHECK.text("ground 5 5 2;", 1, 7);
        CHECK.text("ground A 5 2;", 1, 7);
        CHECK.text("ground a-5 2;", 1, 8);
        CHECK.text("oath o nothing gives nothing;", 0, -1);
        CHECK.text("oath o nothing + a gives nothing;", 1, 15);
        CHECK.text("oath o nothing gives nothing or nothing;", 1, 29);
        CHECK.text("bargain o nothing gives nothing or nothing;", 0, -1);
        CHECK.text("bargain o nothing gives nothing or nothing or nothing;", 1, 43);
        CHECK.text("bargain o nothing gives nothing or ground b 1 1;", 1, 35);
        CHECK.text("bargain o nothing gives ground b 1 1;", 1, 24);
        CHECK.text("oath o nothing ground b 1 1;", 1, 15);
        CHECK.text("oath o ground b 1 1;", 1, 7);
        CHECK.text("claim k 1 = ground b 1 1;", 1, 12);
        CHECK.text("claim k 1 = rest ground b 1 1;", 1, 17);
        CHECK.text("claim k 1 = rest * ground b 1 1;", 1, 19);
        CHECK.text("claim k ground b 1 1;", 1, 8);
        CHECK.text("claim k 1 = (rest;", 1, 17);
        CHECK.text("claim k 1 = rest);", 1, 16);
        CHECK.text("claim k 1 = rest rest;", 1, 17);
        CHECK.text("claim k 1 = [nothing;", 1, 20);
        CHECK.text("claim k 1 = [] rest;", 1, 13);
        CHECK.text("claim k 1 = ever;", 1, 16);
        CHECK.text("claim k 1 = rest or;", 1, 19);
        CHECK.text("claim k 1 rest;", 1, 10);
    }

    private static void wordsThatAreNames() {
        String[] names = {"is", "none", "left", "right", "given", "each", "split", "use", "text", "tell"};
        for (String name : names) {
            CHECK.text("ground " + name + " 1 1; claim k 1 = " + name + ";", 0, -1);
        }
        String[] words = {"ground", "oath", "bargain", "claim", "gives", "or", "any", "nothing", "rest", "ever"};
        for (String word : words) {
            CHECK.text("ground " + word + " 1 1;", 1, 7);
        }
    }

    private static void likeNames() {
        GroundCourt court = Check.told("ground a 1 0;ground aa 2 0;ground aaaaaaaa 3 0;ground aaaaaaab 4 0;"
                + "claim ab 1 = aa;claim ba 1 = aaaaaaab * aaaaaaaa * a;");
        CHECK.same("aa", court.point(0, 1), 1);
        CHECK.same("aaaaaaab", court.point(1, 1), 3);
        CHECK.same("aaaaaaaa", court.point(2, 1), 2);
        CHECK.same("a", court.point(4, 1), 0);
    }

    private static void roomForTells() {
        String ground = "ground X 1 1;";
        String oath = "oath X nothing gives nothing;";
        String bargain = "bargain X nothing gives nothing;";
        String claim = "claim X 1 = rest;";
        String[] tells = {ground, oath, bargain, claim};
        int[] most = {4, 3, 3, 6};
        for (int i = 0; i < tells.length; i++) {
            StringBuilder text = new StringBuilder();
            for (int n = 0; n < most[i]; n++) {
                text.append(tells[i].replace('X', (char) ('a' + n)));
            }
            CHECK.text(text.toString(), 0, -1);
            CHECK.text(text + tells[i].replace('X', 'z'), 2, text.length());
            CHECK.text(text + tells[i].replace('X', 'a'), 2, text.length());
        }
    }

    private static void roomForTokens() {
        StringBuilder side = new StringBuilder("a");
        for (int n = 0; n < 191; n++) {
            side.append("+a");
        }
        String most = "ground a 1 1;oath o " + side + " gives nothing;claim k 1=ever a;";
        CHECK.text(most, 5, 26);
        CHECK.text(most + " ", 5, 26);
        CHECK.text(most + " claim", 2, most.length() + 1);
        CHECK.text(most + " )", 1, most.length() + 1);
        CHECK.text(most + " abcdefghi", 1, most.length() + 1);
        String over = "ground a 1 1;oath o " + side + " gives nothing;claim k 1=ever ever a;";
        CHECK.text(over, 2, over.length() - 1);
        String end = over.substring(0, over.length() - 1);
        CHECK.text(end, 1, end.length());
    }

    private static void roomForPoints() {
        String ground = "ground a 1 1;";
        StringBuilder twelve = new StringBuilder("a");
        for (int n = 1; n < 12; n++) {
            twelve.append("*a");
        }
        String of23 = ground + "claim k 1=" + twelve;
        CHECK.text(of23 + ";", 0, -1);
        CHECK.text(of23 + ";claim m 1=rest;", 0, -1);
        String joined = of23 + " or a";
        CHECK.text(joined + ";", 2, joined.length() - 1);
        CHECK.text(joined + " $", 2, joined.length() - 1);
        CHECK.text(joined + " any a;", 2, joined.length() + 5);
        CHECK.text(joined + " any nothing * rest;", 2, joined.length() + 5);
        CHECK.text(of23 + " or (a);", 2, of23.length() + 6);
        CHECK.text(of23 + " or ((a) );", 2, of23.length() + 9);
        CHECK.text(of23 + ";claim m 1=ever (rest );", 2, of23.length() + 22);
        CHECK.text(of23 + ";claim m 1=[a+a] nothing;", 2, of23.length() + 17);
        CHECK.text(of23 + ";claim m 1=ever nothing;", 2, of23.length() + 16);
        CHECK.text(of23 + ";claim m 1=ever;", 1, of23.length() + 15);
    }

    private static void roomForNesting() {
        CHECK.text("claim k 1 = ((((((rest))))));", 0, -1);
        CHECK.text("claim k 1 = (((((((rest)))))));", 2, 18);
        CHECK.text("claim k 1 = ever ever ever ever ever ever rest;", 0, -1);
        CHECK.text("claim k 1 = ever ever ever ever ever ever ever rest;", 2, 42);
        String side = "[nothing]";
        CHECK.text("claim k 1 = " + side.repeat(6) + "rest;", 0, -1);
        CHECK.text("claim k 1 = " + side.repeat(7) + "rest;", 2, 66);
        CHECK.text("claim k 1 = ever(ever(" + side + "(ever rest)));", 2, 32);
        CHECK.text("claim k 1 = (rest)*(rest)*(rest)*(rest)*(rest)*(rest)*(rest)*ever rest;", 0, -1);
        CHECK.text("claim k 1 = ((((((rest))))))*((((((rest))))));", 0, -1);
    }

    private static void laterFaults() {
        CHECK.text("ground a 0 2;", 5, 9);
        CHECK.text("ground a 99 3;", 0, -1);
        CHECK.text("ground a 100 2;", 5, 9);
        CHECK.text("ground a 5 4;", 5, 11);
        CHECK.text("claim k 0 = rest;", 0, -1);
        CHECK.text("claim k 99 = rest;", 0, -1);
        CHECK.text("claim k 100 = rest;", 5, 8);
        CHECK.text("ground a 1 1;ground a 1 1;", 3, 20);
        CHECK.text("ground a 1 1;oath a a gives a;", 3, 18);
        CHECK.text("ground a 1 1;oath o a gives a;bargain o a gives a;", 3, 38);
        CHECK.text("ground a 1 1;bargain o a gives a;claim o 1 = a;", 3, 39);
        CHECK.text("claim k 1 = rest;claim k 1 = rest;", 3, 23);
        CHECK.text("claim k 1 = a;", 4, 12);
        CHECK.text("claim k 1 = a;ground a 1 1;", 4, 12);
        CHECK.text("claim k 1 = k;", 4, 12);
        CHECK.text("ground a 1 1;oath o a gives b;", 4, 28);
        CHECK.text("ground a 1 1;oath o b gives a;", 4, 20);
        CHECK.text("ground a 1 1;oath o o gives a;", 4, 20);
        CHECK.text("ground a 1 1;bargain o a gives a or a+b;", 4, 38);
        CHECK.text("ground a 1 1;claim k 1 = [b] a;", 4, 26);
        CHECK.text("ground a 1 1;oath o a+a+a gives a+a+a;", 0, -1);
        CHECK.text("ground a 1 1;oath o a+a+a+a gives a;", 5, 26);
        CHECK.text("ground a 1 1;oath o a gives a+a+a+a;", 5, 34);
        CHECK.text("ground a 1 1;claim k 1=[a+a+a+a]a;", 5, 30);
        CHECK.text("ground a 1 1;ground b 1 1;oath o a+a+b+a+b+b gives a;", 0, -1);
        CHECK.text("ground a 0 9;", 5, 9);
        CHECK.text("claim k 100 = a;", 5, 8);
        CHECK.text("ground a 1 1;claim a 100 = b;", 3, 19);
        CHECK.text("ground a 0 1;ground a 1 1 $", 1, 26);
        CHECK.text("claim k 100 = a", 1, 15);
        CHECK.text("ground a 0 1;claim k 1 = (((((((a)))))));", 2, 31);
    }

    private static final String LAW = "ground a 5 2; ground b 7 1; oath o a gives b; bargain p a gives b or a+a;"
            + "claim k 10 = a * b or rest; claim m 2 = rest;";

    private static void aTextWithAFaultChangesNothing() {
        GroundCourt court = Check.told(LAW);
        court.put(0, 0);
        court.oath(0, false);
        court.bargain(0, false);
        court.hold(1);
        court.sit(1);
        CHECK.showing(court, 1, "rest", 0, -1);
        Check.feed(court, "ground z 1 1; claim zz 1 = y;");
        CHECK.same("read", court.read(), 4);
        CHECK.same("place", court.place(), 27);
        int[] due = {2, 1, 1, 2, 6, 4, 0, 0, 0, 1, 1};
        for (int what = 0; what < due.length; what++) {
            CHECK.same("count(" + what + ") behind a FAULT", court.count(what), due[what]);
        }
        CHECK.same("passed behind a FAULT", court.passed(0), 1);
        CHECK.same("price behind a FAULT", court.price(0), 5);
        CHECK.same("WORTH behind a FAULT", court.count(20), 10);
    }

    private static void aTextIsInPlaceOfTheOneAhead() {
        GroundCourt court = Check.told(LAW);
        court.hold(0);
        court.hold(2);
        court.put(0, 0);
        court.oath(0, false);
        court.bargain(0, false);
        court.sit(1);
        CHECK.showing(court, 1, "rest", 0, -1);
        Check.feed(court, LAW);
        CHECK.same("read", court.read(), 0);
        CHECK.same("place", court.place(), -1);
        int[] due = {2, 1, 1, 2, 6, 6, 1, 1, 0, 0, 0};
        for (int what = 0; what < due.length; what++) {
            CHECK.same("count(" + what + ") behind a text", court.count(what), due[what]);
        }
        CHECK.same("passed behind a text", court.passed(0), -2);
        CHECK.same("restore behind a text", court.restore(0), false);
        CHECK.same("now behind a text", court.now(0), -2);
        CHECK.same("read of nothing", court.read(), 0);
        CHECK.same("no GROUND is left", court.count(0), 0);
        CHECK.same("no CLAIM is left", court.pointOf(0), -1);
        CHECK.same("no WORTH is left", court.count(20), -1);
    }

    private static void points() {
        GroundCourt court = Check.told("ground a 1 0;ground b 1 0;ground c 1 0;ground d 1 3;"
                + "claim k 1 = a or b any c * ever d or nothing; claim m 2 = [b+b+d] (a any b any rest);");
        int[][] due = {
            {0, 0, -1}, {0, 1, -1}, {0, 2, -1}, {0, 3, -1}, {6, 3, -1}, {5, 2, 4}, {4, 1, 5}, {3, 0, 6}, {1, -1, -1},
            {3, 7, 8}, {0, 0, -1}, {0, 1, -1}, {4, 10, 11}, {2, -1, -1}, {4, 12, 13}, {7, 14, 72}
        };
        CHECK.same("POINTS", court.count(4), due.length);
        for (int p = 0; p < due.length; p++) {
            for (int what = 0; what < 3; what++) {
                CHECK.same("point(" + p + ", " + what + ")", court.point(p, what), due[p][what]);
            }
            CHECK.same("point(" + p + ", 3)", court.point(p, 3), -1);
            CHECK.same("point(" + p + ", -1)", court.point(p, -1), -1);
        }
        CHECK.same("point(16, 0)", court.point(16, 0), -1);
        CHECK.same("point(-1, 0)", court.point(-1, 0), -1);
        CHECK.same("pointOf(0)", court.pointOf(0), 9);
        CHECK.same("pointOf(1)", court.pointOf(1), 15);
        CHECK.same("pointOf(2)", court.pointOf(2), -1);
        CHECK.same("pointOf(-1)", court.pointOf(-1), -1);
        CHECK.same("WORTH 0", court.count(20), 1);
        CHECK.same("WORTH 1", court.count(21), 2);
        CHECK.same("WORTH 2", court.count(22), -1);
        CHECK.same("STOCK", court.count(5), 192);
    }

    public static void main(String[] args) {
        newObject();
        tape();
        syntax();
        wordsThatAreNames();
        likeNames();
        roomForTells();
        roomForTokens();
        roomForPoints();
        roomForNesting();
        laterFaults();
        aTextWithAFaultChangesNothing();
        aTextIsInPlaceOfTheOneAhead();
        points();
        CHECK.finish("TextTest");
    }
}
