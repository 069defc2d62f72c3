/** The sentences of "==== IV." that name a boundary case, one test each: LACK to NEEDED, SITTINGS, LOTS. */
public final class EdgesOfCourtTest {
    private static final Check CHECK = new Check();

    private static void lack(GroundCourt court, int claim, int price, int number) {
        CHECK.same("lack(" + claim + ", 0)", court.lack(claim, 0), price);
        CHECK.same("lack(" + claim + ", 1)", court.lack(claim, 1), number);
    }

    private static void spare(GroundCourt court, int claim, int price, int number) {
        CHECK.same("spare(" + claim + ", 0)", court.spare(claim, 0), price);
        CHECK.same("spare(" + claim + ", 1)", court.spare(claim, 1), number);
    }

    private static void together(GroundCourt court, int worth, int set) {
        CHECK.same("together(0)", court.together(0), worth);
        CHECK.same("together(1)", court.together(1), set);
    }

    private static void part(GroundCourt court, int claim, int stock, int bargains) {
        CHECK.same("part(" + claim + ", 0)", court.part(claim, 0), stock);
        CHECK.same("part(" + claim + ", 1)", court.part(claim, 1), bargains);
    }

    private static void needed(GroundCourt court, int claim, int many, int oaths, int bargains) {
        CHECK.same("needed(" + claim + ", 0)", court.needed(claim, 0), many);
        CHECK.same("needed(" + claim + ", 1)", court.needed(claim, 1), oaths);
        CHECK.same("needed(" + claim + ", 2)", court.needed(claim, 2), bargains);
    }

    private static String grounds(int price, int many) {
        String end = " " + price + " " + many + ";";
        return "ground a" + end + "ground b" + end + "ground c" + end + "ground d" + end;
    }

    private static void lacks() {
        CHECK.about("LACK of a CLAIM: GROUNDS put to the STOCK (3 of each at most then) with which it CAN be shown: those of"
                + " least PRICE; of alike ones the least number.");
        GroundCourt court = Check.told("ground a 5 1;ground b 7 0;claim k 1=a;claim m 1=a*a*a;claim n 1=a*a*a*a;"
                + "claim r 1=b;claim s 1=nothing;claim t 1=rest;");
        lack(court, 0, 0, 0);
        lack(court, 1, 10, 2);
        lack(court, 2, -2, -2);
        lack(court, 3, -2, -2);
        lack(court, 4, -2, -2);
        lack(court, 5, 0, 0);
        court.put(0, 0);
        lack(court, 1, 15, 3);
        lack(court, 3, 7, 4);
        lack(court, 4, 0, 0);
        court.put(0, 3);
        lack(court, 0, -2, -2);
        lack(court, 1, 0, 0);
        GroundCourt all = Check.told(grounds(99, 0) + "claim k 1=a*a*a*b*b*b*c*c*c*d*d*d;");
        lack(all, 0, 12 * 99, 255);
        GroundCourt cheap = Check.told("ground a 8 0;ground b 1 0;ground c 1 0;ground d 1 0;claim k 1=a or d;"
                + "claim m 1=d or c;claim n 1=a or b*b*b*c*c*c*d*d;");
        lack(cheap, 0, 1, 64);
        lack(cheap, 1, 1, 16);
        lack(cheap, 2, 8, 1);
        GroundCourt deals = Check.told("ground a 9 2;ground b 4 0;oath o b+b gives a;bargain p b gives a;claim k 1=a*a*a;");
        lack(deals, 0, 4, 4);
        deals.bargain(0, false);
        lack(deals, 0, 8, 8);
        deals.oath(0, false);
        lack(deals, 0, 9, 1);
    }

    private static void spares() {
        CHECK.about("SPARE: GROUNDS taken out of it likewise with the greatest PRICE; of alike ones the least number.");
        GroundCourt court = Check.told("ground a 5 2;ground b 7 1;claim k 1=a*a*b;claim m 1=a;claim n 1=a*a*a;"
                + "claim r 1=nothing;claim s 1=rest;claim t 1=a or b;");
        spare(court, 0, 0, 0);
        spare(court, 1, 12, 5);
        spare(court, 2, -2, -2);
        spare(court, 3, 17, 6);
        spare(court, 4, 17, 6);
        spare(court, 5, 12, 5);
        court.put(0, 0);
        court.put(1, 0);
        spare(court, 1, -2, -2);
        spare(court, 3, 0, 0);
        spare(court, 4, 0, 0);
        spare(Check.told(grounds(99, 3) + "claim k 1=nothing;"), 0, 12 * 99, 255);
        GroundCourt alike = Check.told("ground a 4 2;ground b 4 1;claim k 1=a or b;claim m 1=a*a or b*b or a*b;");
        spare(alike, 0, 8, 2);
        spare(alike, 1, 4, 1);
        GroundCourt deals = Check.told("ground a 4 2;ground b 9 0;oath o a gives b;bargain p nothing gives b;claim k 1=b;");
        spare(deals, 0, 8, 2);
        deals.bargain(0, false);
        spare(deals, 0, 4, 1);
        deals.oath(0, false);
        spare(deals, 0, -2, -2);
    }

    private static void togethers() {
        CHECK.about("TOGETHER: a set of CLAIMS for which the STOCK and the BARGAINS at hand can be parted so that each CAN be"
                + " shown with its part (all of the STOCK must be in some part, BARGAINS may be in none): that with the most"
                + " WORTH; of alike ones the least bits");
        GroundCourt parted = Check.told("ground a 1 1;ground b 1 1;claim k 5=a;claim m 0=b;claim n 4=a*b;");
        together(parted, 5, 3);
        parted.put(1, 0);
        together(parted, 5, 1);
        parted.put(1, 2);
        together(parted, 4, 6);
        parted.put(1, 3);
        together(parted, -2, -2);
        GroundCourt rest = Check.told("ground a 1 3;claim k 5=a;claim m 0=rest;");
        together(rest, 5, 3);
        rest.put(0, 1);
        together(rest, 5, 1);
        rest.put(0, 0);
        together(rest, 0, 0);
        String three = "bargain p nothing gives a;bargain q nothing gives a;bargain r nothing gives a;";
        GroundCourt bargains = Check.told("ground a 1 1;" + three + "claim k 5=a;claim m 5=a;claim n 5=ever a;");
        together(bargains, 10, 3);
        bargains.bargain(0, false);
        bargains.bargain(1, false);
        together(bargains, 10, 3);
        bargains.bargain(2, false);
        together(bargains, 5, 1);
        GroundCourt oath = Check.told("ground a 1 1;ground b 1 0;oath o a gives b;claim k 5=b;claim m 2=a;");
        together(oath, 5, 1);
        oath.oath(0, false);
        together(oath, 2, 2);
        oath.oath(0, true);
        together(oath, 5, 1);
        together(Check.told("ground a 1 1;claim k 3=a;claim m 3=a;"), 3, 1);
        together(Check.told("ground a 1 1;claim k 3=a;claim m 4=a;"), 4, 2);
        together(Check.told("ground a 1 1;ground b 1 1;claim k 5=a*b;claim m 2=a;claim n 3=b;"), 5, 1);
        together(Check.told("ground a 1 1;ground b 1 1;claim m 2=a;claim n 3=b;claim k 5=a*b;"), 5, 3);
        together(Check.told("ground a 1 1;claim k 0=nothing;claim m 0=a;claim n 0=rest;"), 0, 2);
        together(Check.told("ground a 1 3;claim k 99=rest;claim m 99=rest;claim n 99=rest;claim r 99=rest;claim s 99=rest;"
                + "claim t 99=rest;"), 6 * 99, 63);
        together(Check.told(grounds(1, 3) + "claim k 5=nothing;claim m 3=rest;"), 8, 3);
        together(Check.told(grounds(1, 3) + "claim k 5=rest;claim m 3=nothing;"), 8, 3);
        CHECK.about("-2 if there is none (the empty set is one with the empty STOCK).");
        together(Check.told("ground a 1 0;claim k 5=a;"), 0, 0);
        together(Check.told("ground a 1 1;claim k 5=nothing;"), -2, -2);
        together(Check.told("ground a 1 0;"), 0, 0);
        together(Check.told("ground a 1 1;"), -2, -2);
        together(Check.told(""), 0, 0);
        together(new GroundCourt(), 0, 0);
        together(Check.told("ground a 1 0;claim k 0=nothing;"), 0, 0);
        together(Check.told("ground a 1 0;claim k 1=nothing;"), 1, 1);
    }

    private static void parts() {
        CHECK.about("PARTS: for the least CLAIM of it the least number of the STOCK, then the least bits, and so on.");
        GroundCourt rests = Check.told("ground a 1 1;ground b 1 1;bargain p a gives a;claim k 1=rest;claim m 1=rest;"
                + "claim n 1=rest;");
        part(rests, 0, 0, 0);
        part(rests, 1, 0, 0);
        part(rests, 2, 5, 0);
        GroundCourt stockFirst = Check.told("ground a 1 1;bargain p nothing gives a;claim k 1=a;claim m 1=rest;");
        part(stockFirst, 0, 0, 1);
        part(stockFirst, 1, 1, 0);
        GroundCourt bits = Check.told("ground a 1 0;bargain p nothing gives a;bargain q nothing gives a;"
                + "bargain r nothing gives a;claim k 1=a;claim m 1=a*a;");
        part(bits, 0, 0, 1);
        part(bits, 1, 0, 6);
        GroundCourt must = Check.told("ground a 1 1;ground b 1 1;claim k 1=a or b;claim m 1=a;");
        part(must, 0, 4, 0);
        part(must, 1, 1, 0);
        GroundCourt bargain = Check.told("ground a 1 0;ground b 1 0;bargain p nothing gives a;bargain q nothing gives a or b;"
                + "claim k 1=a or b;claim m 1=a;");
        part(bargain, 0, 0, 2);
        part(bargain, 1, 0, 1);
        GroundCourt some = Check.told("ground a 1 3;claim k 1=nothing;claim m 9=a*a*a;claim n 0=rest;");
        part(some, 0, 0, 0);
        part(some, 1, 3, 0);
        part(some, 2, -2, -2);
        some.put(0, 2);
        part(some, 0, 0, 0);
        part(some, 1, -2, -2);
        part(some, 2, 2, 0);
    }

    private static void needs() {
        CHECK.about("NEEDED of a CLAIM: the fewest OATHS and BARGAINS (of those that hold, that are at hand) with which alone"
                + " it CAN be shown; of alike ones the least bits of OATHS, then of BARGAINS.");
        String one = "ground a 1 1;ground b 1 0;ground c 1 0;";
        needed(Check.told(one + "oath o a gives a;bargain p a gives a;claim k 1=a;"), 0, 0, 0, 0);
        needed(Check.told(one + "oath o a gives b;bargain p a gives b;claim k 1=b;"), 0, 1, 0, 1);
        needed(Check.told(one + "oath o a gives b;oath n a gives b;claim k 1=b;"), 0, 1, 1, 0);
        needed(Check.told(one + "bargain o a gives b;bargain n a gives b;claim k 1=b;"), 0, 1, 0, 1);
        needed(Check.told(one + "oath o a gives b+b;oath n b gives c;claim k 1=c*c;"), 0, 2, 3, 0);
        needed(Check.told(one + "oath o a gives b;oath n b gives c;oath l a gives c;claim k 1=c;"), 0, 1, 4, 0);
        GroundCourt off = Check.told(one + "oath o a gives b;oath n b gives c;oath l a gives c;bargain p a gives b;"
                + "bargain q b gives c;bargain r a gives c;claim k 1=c;");
        needed(off, 0, 1, 0, 4);
        off.bargain(2, false);
        needed(off, 0, 1, 4, 0);
        off.oath(2, false);
        needed(off, 0, 2, 0, 3);
        off.bargain(1, false);
        needed(off, 0, 2, 2, 1);
        off.bargain(0, false);
        needed(off, 0, 2, 3, 0);
        off.oath(1, false);
        needed(off, 0, -2, -2, -2);
        GroundCourt low = Check.told(one + "oath o a gives b;oath n a gives b;bargain p a gives b;bargain q a gives b;claim k 1=b;");
        low.bargain(0, false);
        needed(low, 0, 1, 0, 2);
        low.bargain(1, false);
        needed(low, 0, 1, 1, 0);
        low.oath(0, false);
        needed(low, 0, 1, 2, 0);
        GroundCourt all = Check.told(grounds(1, 0) + "oath o a gives d;oath n b gives d;oath l c gives d;"
                + "bargain p nothing gives a;bargain q nothing gives b;bargain r nothing gives c;claim k 1=d*d*d;");
        needed(all, 0, 6, 7, 7);
    }

    private static void now(GroundCourt court, int step, int point, int stock, int bargains) {
        int[] due = {step, point, stock, bargains};
        for (int what = 0; what < due.length; what++) {
            CHECK.same("now(" + what + ")", court.now(what), due[what]);
        }
    }

    private static void go(GroundCourt court, int answer, int places) {
        CHECK.same("go(" + answer + ")", court.go(answer), places);
        if (places >= 0) {
            CHECK.same("places", court.count(10), places);
        }
    }

    private static void sittings() {
        CHECK.about("places that must still be shown stand one on the other; the top one's step is done; of what it leads to"
                + " the first part is on top, the second one below");
        GroundCourt court = Check.told("ground a 1 1;ground b 1 1;claim k 1=(a any rest)*b;");
        CHECK.same("sit", court.sit(0), true);
        now(court, 6, 4, 5, 0);
        go(court, 0, 2);
        now(court, 5, 2, 1, 0);
        go(court, 0, 3);
        now(court, 0, 0, 1, 0);
        go(court, 0, 2);
        now(court, 2, 1, 1, 0);
        go(court, 0, 1);
        now(court, 0, 3, 4, 0);
        go(court, 0, 0);
        now(court, -2, -2, -2, -2);
        go(court, 0, -1);
        CHECK.about("a BARGAIN with two SIDES waits for the other side's answer.");
        String law = "ground a 1 1;ground b 1 0;ground c 1 0;bargain p a gives b or c;claim k 1=b or c;";
        for (int answer = 0; answer < 2; answer++) {
            GroundCourt two = Check.told(law);
            two.sit(0);
            for (int none : new int[] {2, -1, 3, Integer.MAX_VALUE, Integer.MIN_VALUE}) {
                go(two, none, -1);
                now(two, 20, 2, 1, 1);
                CHECK.same("places", two.count(10), 1);
            }
            go(two, answer, 1);
            now(two, 3 + answer, 2, answer == 0 ? 4 : 16, 0);
            go(two, 7, 1);
            now(two, 0, answer, answer == 0 ? 4 : 16, 0);
            go(two, -7, 0);
        }
        GroundCourt one = Check.told("ground a 1 1;ground b 1 0;bargain p a gives b;claim k 1=b;");
        one.sit(0);
        go(one, 2, 1);
        now(one, 0, 0, 4, 0);
        GroundCourt same = Check.told("ground a 1 1;ground b 1 0;bargain p a gives b or b;claim k 1=b;");
        same.sit(0);
        go(same, 2, -1);
        go(same, 1, 1);
        now(same, 0, 0, 4, 0);
    }

    /** LOT 2 of which 0, 1 and 2 of a SEED, found with whole numbers of any length and remainders by 2 to the 32. */
    private static final int[][] LOTS = {{0, 1, 0, 0}, {1, 1, 1, 1}, {2, 1, 0, 0}, {3, 0, 1, 1}, {4, 0, 0, 1}, {5, 1, 0, 1},
        {6, 0, 1, 0}, {10, 1, 1, 0}, {19, 1, 1, 0}, {12345, 0, 1, 0}, {-1, 1, 0, 1}, {Integer.MAX_VALUE, 0, 1, 0},
        {Integer.MIN_VALUE, 0, 1, 1}};

    private static void lots() {
        CHECK.about("BY LOTS of a SEED: the answer to the k-th BARGAIN with two SIDES (from 0 on) is LOT 2 of which k.");
        String empty = "ground a 1 0;ground b 1 0;ground c 1 0;";
        String two = " nothing gives a or b;";
        String none = "[nothing]";
        GroundCourt three = Check.told(empty + "bargain p" + two + "bargain q" + two + "bargain r" + two
                + "claim k 1=(a or " + none + "b)*(a or " + none.repeat(2) + "b)*(a or " + none.repeat(4) + "b);");
        GroundCourt other = Check.told(empty + "bargain p nothing gives c;bargain q" + two + "bargain r" + two
                + "claim k 1=c*(a or " + none + "b)*(a or " + none.repeat(2) + "b);");
        for (int[] lot : LOTS) {
            CHECK.same("lots(0, " + lot[0] + ")", three.lots(0, lot[0]), 11 + lot[1] + 2 * lot[2] + 4 * lot[3]);
            CHECK.same("lots(0, " + lot[0] + ") of two", other.lots(0, lot[0]), 10 + lot[1] + 2 * lot[2]);
        }
        GroundCourt plain = Check.told("ground a 1 1;ground b 1 0;bargain p a gives b;claim k 1=b;claim m 1=a;");
        for (int[] lot : LOTS) {
            CHECK.same("lots(0, " + lot[0] + ") of none", plain.lots(0, lot[0]), 2);
            CHECK.same("lots(1, " + lot[0] + ") of none", plain.lots(1, lot[0]), 1);
        }
    }

    /** The document's words once more, with longs. */
    private static int lot(long n, long seed, long which) {
        long wrap = 1L << 32;
        long h = Math.floorMod(seed, wrap);
        for (long it : new long[] {19, which}) {
            h = Math.floorMod((h ^ it) * 1103515245L + 12345L, wrap);
            h ^= h / 32768;
        }
        return (int) (h / 2 % n);
    }

    private static void lotsThatWrap() {
        CHECK.about("h becomes (h and it, each bit of which is in just one) times 1103515245 and 12345 more, then h and h moved"
                + " 15 bits down (zeros come in), likewise; the rest of h, moved 1 bit down likewise, by n (32 bits that"
                + " wrap).");
        GroundCourt one = Check.told("ground a 1 0;ground b 1 0;bargain p nothing gives a or b;claim k 1=a or [nothing]b;");
        int[] count = new int[2];
        for (int i = 0; i < 400; i++) {
            int seed = i * 0x9E3779B9 + (i % 3 - 1);
            int due = lot(2, seed, 0);
            CHECK.same("lots(0, " + seed + ")", one.lots(0, seed), 3 + due);
            count[due]++;
        }
        CHECK.same("both come", Math.min(count[0], count[1]) > 100, true);
    }

    public static void main(String[] args) {
        lacks();
        spares();
        togethers();
        parts();
        needs();
        sittings();
        lots();
        lotsThatWrap();
        CHECK.finish("EdgesOfCourtTest");
    }
}
