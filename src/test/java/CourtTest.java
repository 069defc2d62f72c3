/** Promises 22 to 30: LACK, SPARE, TOGETHER, PARTS, NEEDED, SITTINGS, LOTS. */
public final class CourtTest {
    private static final Check CHECK = new Check();

    private static void pair(String name, int zero, int one, int dueZero, int dueOne) {
        CHECK.same(name + " 0", zero, dueZero);
        CHECK.same(name + " 1", one, dueOne);
    }

    private static void lack(GroundCourt court, int claim, int price, int number) {
        pair("lack(" + claim + ")", court.lack(claim, 0), court.lack(claim, 1), price, number);
    }

    private static void spare(GroundCourt court, int claim, int price, int number) {
        pair("spare(" + claim + ")", court.spare(claim, 0), court.spare(claim, 1), price, number);
    }

    private static void lacks() {
        GroundCourt court = Check.told("ground a 5 1;ground b 7 0;ground c 2 0;oath o c+c gives b;"
                + "claim k 1 = a * b;claim m 1 = a * (b or c * c);claim n 1 = b;claim r 1 = rest;"
                + "claim s 1 = a * a * a * a;claim t 1 = a * a;");
        lack(court, 0, 4, 32);
        lack(court, 1, 4, 32);
        lack(court, 2, -2, -2);
        lack(court, 3, 0, 0);
        lack(court, 4, -2, -2);
        lack(court, 5, 5, 1);
        court.oath(0, false);
        lack(court, 0, 7, 4);
        court.put(1, 1);
        lack(court, 0, 0, 0);
        lack(court, 5, -2, -2);
        CHECK.same("lack(0, 2)", court.lack(0, 2), -1);
        CHECK.same("lack(0, -1)", court.lack(0, -1), -1);
        CHECK.same("lack(6, 0)", court.lack(6, 0), -1);
        CHECK.same("lack(-1, 0)", court.lack(-1, 0), -1);
        GroundCourt alike = Check.told("ground a 4 0;ground b 2 0;ground c 4 0;claim k 1 = a or b * b or c;"
                + "claim m 1 = c or b * b;claim n 1 = c or a;");
        lack(alike, 0, 4, 1);
        lack(alike, 1, 4, 8);
        lack(alike, 2, 4, 1);
        GroundCourt bargained = Check.told("ground a 4 0;ground b 2 0;bargain p b gives a+a or a+b;"
                + "claim k 1 = a * a or a * b;");
        lack(bargained, 0, 2, 4);
        bargained.bargain(0, false);
        lack(bargained, 0, 6, 5);
    }

    private static void spares() {
        GroundCourt court = Check.told("ground a 5 2;ground b 7 3;claim k 1 = a * b;claim m 1 = a or b;"
                + "claim n 1 = nothing;claim r 1 = rest;claim s 1 = a * a * a;");
        spare(court, 0, 19, 9);
        spare(court, 1, 26, 13);
        spare(court, 2, 31, 14);
        spare(court, 3, 31, 14);
        spare(court, 4, -2, -2);
        CHECK.same("can is not asked for", court.can(0), -2);
        CHECK.same("spare(0, 2)", court.spare(0, 2), -1);
        CHECK.same("spare(0, -1)", court.spare(0, -1), -1);
        CHECK.same("spare(5, 0)", court.spare(5, 0), -1);
        CHECK.same("spare(-1, 0)", court.spare(-1, 0), -1);
        GroundCourt alike = Check.told("ground a 4 2;ground b 4 1;claim k 1 = a or b;");
        spare(alike, 0, 8, 2);
        GroundCourt whole = Check.told("ground a 4 1;oath o a gives a+a;claim k 1 = a * a;");
        spare(whole, 0, 0, 0);
        whole.oath(0, false);
        spare(whole, 0, -2, -2);
    }

    private static void together(GroundCourt court, int worth, int set) {
        pair("together", court.together(0), court.together(1), worth, set);
    }

    private static void part(GroundCourt court, int claim, int stock, int bargains) {
        pair("part(" + claim + ")", court.part(claim, 0), court.part(claim, 1), stock, bargains);
    }

    private static void togethers() {
        GroundCourt court = Check.told("ground a 1 2;ground b 1 1;claim k 5 = a;claim m 5 = b;claim n 9 = a * b;"
                + "claim r 0 = rest;claim s 5 = a;");
        together(court, 15, 19);
        part(court, 0, 1, 0);
        part(court, 1, 4, 0);
        part(court, 2, -2, -2);
        part(court, 3, -2, -2);
        part(court, 4, 1, 0);
        court.put(1, 0);
        together(court, 10, 17);
        part(court, 1, -2, -2);
        court.put(0, 3);
        together(court, 10, 25);
        part(court, 0, 1, 0);
        part(court, 3, 1, 0);
        part(court, 4, 1, 0);
        court.put(0, 0);
        together(court, 0, 0);
        part(court, 3, -2, -2);
        CHECK.same("together(2)", court.together(2), -1);
        CHECK.same("together(-1)", court.together(-1), -1);
        CHECK.same("part(0, 2)", court.part(0, 2), -1);
        CHECK.same("part(0, -1)", court.part(0, -1), -1);
        CHECK.same("part(5, 0)", court.part(5, 0), -1);
        CHECK.same("part(-1, 0)", court.part(-1, 0), -1);
    }

    private static void togetherWithDeals() {
        GroundCourt none = Check.told("ground a 1 1;ground b 1 0;claim k 5 = b;");
        together(none, -2, -2);
        part(none, 0, -2, -2);
        GroundCourt oath = Check.told("ground a 1 1;ground b 1 0;oath o a gives b;claim k 5 = b;");
        together(oath, 5, 1);
        oath.oath(0, false);
        together(oath, -2, -2);
        oath.oath(0, true);
        together(oath, 5, 1);
        GroundCourt bargain = Check.told("ground a 1 1;ground b 1 0;bargain p nothing gives b;bargain q nothing gives b;"
                + "claim k 5 = b;claim m 6 = a * b;claim n 7 = ever b;claim r 3 = b or nothing;");
        together(bargain, 14, 11);
        part(bargain, 0, 0, 1);
        part(bargain, 1, 1, 2);
        part(bargain, 2, -2, -2);
        part(bargain, 3, 0, 0);
        bargain.bargain(0, false);
        together(bargain, 9, 10);
        part(bargain, 1, 1, 2);
        bargain.put(0, 0);
        together(bargain, 8, 9);
        part(bargain, 0, 0, 2);
        part(bargain, 3, 0, 0);
        GroundCourt least = Check.told("ground a 1 1;ground b 1 1;bargain p a gives b;bargain q b gives a;"
                + "claim k 1 = rest;claim m 1 = a or b;claim n 1 = rest;");
        together(least, 3, 7);
        part(least, 0, 0, 0);
        part(least, 1, 1, 0);
        part(least, 2, 4, 0);
    }

    private static void needed(GroundCourt court, int claim, int many, int oaths, int bargains) {
        CHECK.same("needed(" + claim + ", 0)", court.needed(claim, 0), many);
        CHECK.same("needed(" + claim + ", 1)", court.needed(claim, 1), oaths);
        CHECK.same("needed(" + claim + ", 2)", court.needed(claim, 2), bargains);
    }

    private static void needs() {
        GroundCourt court = Check.told("ground a 1 1;ground b 1 0;ground c 1 0;ground d 1 0;"
                + "oath o a gives b;oath n b gives c;oath l a gives b;bargain p b gives c;bargain q a gives c;"
                + "bargain r c gives d or d+d;claim k 1 = a;claim m 1 = b;claim s 1 = c;claim t 1 = d or d * d;"
                + "claim u 1 = b * b;claim v 1 = d;");
        needed(court, 0, 0, 0, 0);
        needed(court, 1, 1, 1, 0);
        needed(court, 2, 1, 0, 2);
        needed(court, 3, 2, 0, 6);
        needed(court, 4, -2, -2, -2);
        needed(court, 5, -2, -2, -2);
        court.oath(0, false);
        needed(court, 1, 1, 4, 0);
        court.bargain(1, false);
        needed(court, 2, 2, 4, 1);
        court.oath(0, true);
        needed(court, 2, 2, 1, 1);
        needed(court, 3, 3, 1, 5);
        court.bargain(0, false);
        needed(court, 2, 2, 3, 0);
        court.bargain(2, false);
        needed(court, 3, -2, -2, -2);
        CHECK.same("needed(0, 3)", court.needed(0, 3), -1);
        CHECK.same("needed(0, -1)", court.needed(0, -1), -1);
        CHECK.same("needed(6, 0)", court.needed(6, 0), -1);
        CHECK.same("needed(-1, 0)", court.needed(-1, 0), -1);
    }

    private static final String SITTING = "ground a 1 1;ground b 1 0;ground c 1 0;oath o a gives b;"
            + "bargain p b gives c or a+a;claim k 1 = c * nothing or a * a;claim m 1 = c;claim n 1 = rest;";

    private static void now(GroundCourt court, int... due) {
        for (int what = 0; what < 6; what++) {
            CHECK.same("now(" + what + ")", court.now(what), due[what]);
        }
        CHECK.same("now(6)", court.now(6), -1);
        CHECK.same("now(-1)", court.now(-1), -1);
    }

    private static void sittings() {
        GroundCourt court = Check.told(SITTING);
        now(court, -2, -2, -2, -2, -2, -2);
        CHECK.same("go without SITTING", court.go(0), -1);
        CHECK.same("sit(1)", court.sit(1), false);
        CHECK.same("sit(3)", court.sit(3), false);
        CHECK.same("sit(-1)", court.sit(-1), false);
        CHECK.same("no SITTING", court.count(10), 0);
        CHECK.same("sit(0)", court.sit(0), true);
        CHECK.same("places", court.count(10), 1);
        now(court, 10, 6, 1, 1, -1, -1);
        court.oath(0, false);
        court.bargain(0, false);
        court.put(0, 3);
        now(court, 10, 6, 1, 1, -1, -1);
        CHECK.same("sit(1) changes nothing", court.sit(1), false);
        CHECK.same("go(77)", court.go(77), 1);
        now(court, 20, 6, 4, 1, -1, -1);
        CHECK.same("go(2)", court.go(2), -1);
        CHECK.same("go(-1)", court.go(-1), -1);
        now(court, 20, 6, 4, 1, -1, -1);
        CHECK.same("go(0)", court.go(0), 1);
        now(court, 3, 6, 16, 0, -1, -1);
        CHECK.same("go(1)", court.go(1), 1);
        now(court, 6, 2, 16, 0, 16, 0);
        CHECK.same("go(1)", court.go(1), 2);
        now(court, 0, 0, 16, 0, -1, -1);
        CHECK.same("places", court.count(10), 2);
        CHECK.same("go(0)", court.go(0), 1);
        now(court, 1, 1, 0, 0, -1, -1);
        CHECK.same("go(-5)", court.go(-5), 0);
        now(court, -2, -2, -2, -2, -2, -2);
        CHECK.same("go behind the end", court.go(0), -1);
        CHECK.same("places", court.count(10), 0);
    }

    private static void theOtherAnswer() {
        GroundCourt court = Check.told(SITTING);
        court.sit(0);
        court.go(0);
        CHECK.same("go(1)", court.go(1), 1);
        now(court, 4, 6, 2, 0, -1, -1);
        CHECK.same("sit(2) begins anew", court.sit(2), true);
        CHECK.same("places", court.count(10), 1);
        now(court, 2, 8, 1, 1, -1, -1);
    }

    private static int lot(int seed, int which) {
        int h = (seed ^ 19) * 1103515245 + 12345;
        h ^= h >>> 15;
        h = (h ^ which) * 1103515245 + 12345;
        h ^= h >>> 15;
        return (h >>> 1) % 2;
    }

    private static void lots() {
        GroundCourt court = Check.told("ground a 1 0;ground b 1 0;bargain p nothing gives a or b;"
                + "bargain q nothing gives a or b;bargain r nothing gives a or b;"
                + "claim k 1 = (a or (b * nothing)) * (a or (b * nothing)) * (a or (b * nothing));"
                + "claim m 1 = a * a * a;claim n 1 = nothing;");
        int[] steps = {3, 5};
        for (int seed : new int[] {0, 1, 2, 3, 4, 5, 6, 7, -1, 19, 12345, Integer.MAX_VALUE, Integer.MIN_VALUE}) {
            int due = 2;
            for (int k = 0; k < 3; k++) {
                due += steps[lot(seed, k)];
            }
            CHECK.same("lots(0, " + seed + ")", court.lots(0, seed), due);
            CHECK.same("lots(1, " + seed + ")", court.lots(1, seed), -2);
            CHECK.same("lots(2, " + seed + ")", court.lots(2, seed), 1);
            CHECK.same("lots(3, " + seed + ")", court.lots(3, seed), -1);
            CHECK.same("lots(-1, " + seed + ")", court.lots(-1, seed), -1);
        }
        CHECK.same("no SITTING by lots", court.count(10), 0);
        court.sit(0);
        court.go(0);
        int places = court.count(10);
        int step = court.now(0);
        court.lots(2, 5);
        CHECK.same("the SITTING stays", court.count(10), places);
        CHECK.same("the SITTING stays", court.now(0), step);
    }

    public static void main(String[] args) {
        lacks();
        spares();
        togethers();
        togetherWithDeals();
        needs();
        sittings();
        theOtherAnswer();
        lots();
        CHECK.finish("CourtTest");
    }
}
