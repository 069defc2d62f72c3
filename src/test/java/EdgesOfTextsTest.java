/** The sentences under "Terms" that name a boundary case, one test each: texts, TOKENS, POINTS, FAULTS. */
public final class EdgesOfTextsTest {
    private static final Check CHECK = new Check();
    private static final String GROUND = "ground a 1 1;";
    private static final String[] WORDS = {"ground", "oath", "bargain", "claim", "gives", "or", "any", "nothing", "rest",
        "ever"};

    private static void atMostTwoThousandBytes() {
        CHECK.about("A TEXT has 2,000 bytes at most.");
        CHECK.fine(" ".repeat(2000));
        CHECK.fine(" ".repeat(1987) + GROUND);
        CHECK.fault(1, " ".repeat(1988) + "ground a 1 1@");
        CHECK.fault(1, " ".repeat(1999) + "@$");
        GroundCourt court = Check.told("claim k 1 = rest;");
        CHECK.passes(court, " ".repeat(1996) + "rest");
    }

    private static void theLongestThatCanBe() {
        CHECK.about("TOKENS, the longest that can be, with blanks (9, 10, 13, 32) between or not");
        CHECK.fine("\tground\na\r1 1\t\n\r ;");
        CHECK.fine("ground a1 1;ground b2 2;claim k1=a*b;");
        CHECK.fault(1, "@grounda 1 1;");
        CHECK.fault(1, "ground a 11@;");
        CHECK.fault(1, "claim k 1=restor @rest;");
        CHECK.fault(4, GROUND + "claim k 1=@aora;");
        CHECK.fault(4, GROUND + "claim k 1=@everrest;");
        CHECK.fault(1, "claim k 1=ever rest @ever;");
    }

    /** Each byte between two TOKENS: a blank parts them, a digit goes on with the INT, all else is wrong there. */
    private static void allBytesBetweenTokens() {
        CHECK.about("with blanks (9, 10, 13, 32) between or not: NAMES");
        for (char sign = 0; sign < 256; sign++) {
            boolean blank = sign == 9 || sign == 10 || sign == 13 || sign == 32;
            String text = "ground a 1 1" + sign + ";";
            if (blank) {
                CHECK.fine(text);
                CHECK.fine("" + sign);
            } else {
                CHECK.text("" + sign, 1, 0);
                boolean digit = sign >= '0' && sign <= '9';
                CHECK.text(text, digit ? 5 : 1, digit ? 11 : sign == ';' ? 13 : 12);
            }
        }
    }

    private static void names() {
        CHECK.about("NAMES (letters a .. z, 8 at most, none of the words in quotes)");
        for (String name : new String[] {"a", "z", "az", "abcdefgh", "zzzzzzzz", "grounds", "oat", "nothings", "rests", "eve"}) {
            CHECK.fine("ground " + name + " 1 1;claim k 1=" + name + ";");
        }
        CHECK.fault(1, "ground @abcdefghi 1 1;");
        CHECK.fault(1, "ground @" + "z".repeat(1990));
        CHECK.fault(1, "claim k 1=@restrestr;");
        CHECK.fault(1, "ground @` 1 1;");
        CHECK.fault(1, "ground a@` 1 1;");
        CHECK.fault(1, "ground @{ 1 1;");
        CHECK.fault(1, "ground @A 1 1;");
        CHECK.fault(1, "ground a@Z 1 1;");
        for (String word : WORDS) {
            CHECK.fault(1, "ground @" + word + " 1 1;");
        }
        CHECK.fine("ground aaaaaaaa 1 1;ground aaaaaaab 1 1;ground baaaaaaa 1 1;ground aaaaaaa 1 1;");
    }

    private static void ints() {
        CHECK.about("INTS (1 to 4 digits)");
        CHECK.fine("ground a 1 1;");
        CHECK.fine("ground a 0001 0003;");
        CHECK.fine("claim k 0099=rest;");
        CHECK.fault(5, "claim k @9999=rest;");
        CHECK.fault(1, "claim k @00099=rest;");
        CHECK.fault(1, "ground a @00001 1;");
        CHECK.fault(1, "ground a 1 @00001;");
        CHECK.fault(1, "ground a @4294967297 1;");
        CHECK.fault(1, "ground a @/ 1;");
        CHECK.fault(1, "ground a @: 1;");
        CHECK.fault(1, "ground a @-1 1;");
        CHECK.fault(1, "ground a @+1 1;");
    }

    private static void signs() {
        CHECK.about("SIGNS ; = + * ( ) [ ] . A longer one, all else, is no TOKEN.");
        CHECK.fine(GROUND + "claim k 1=[a+a](a*a);");
        for (char sign : "!\"#$%&',-./:<>?@\\^_`{|}~".toCharArray()) {
            CHECK.text("claim k 1=rest" + sign + "rest;", 1, 14);
        }
        CHECK.fault(1, "claim k 1@.0=rest;");
        CHECK.fault(1, "claim k 1=@=rest;");
        CHECK.fault(1, "claim k 1=rest*@*rest;");
    }

    /** A TELL is cut behind each of its TOKENS: the text can't end there. */
    private static void cut(String tell) {
        String[] tokens = tell.split(" ");
        StringBuilder text = new StringBuilder(GROUND);
        for (int n = 0; n < tokens.length - 1; n++) {
            text.append(tokens[n]);
            CHECK.fault(1, text + "@");
            text.append(' ');
            CHECK.fault(1, text + "@");
        }
        CHECK.fine(text + tokens[tokens.length - 1]);
    }

    /** One of the TOKENS of a TELL is left out: that behind it stands where it can't; what is wrong later is not told. */
    private static void dropped(String tell) {
        String[] tokens = (tell + " $").split(" ");
        for (int out = 0; out < tokens.length - 1; out++) {
            StringBuilder text = new StringBuilder(GROUND);
            for (int i = 0; i < tokens.length; i++) {
                if (i != out) {
                    text.append(i == out + 1 ? " @" : " ").append(tokens[i]);
                }
            }
            CHECK.fault(1, text.toString());
        }
    }

    private static void tells() {
        CHECK.about("text: {TELL}.");
        CHECK.fine("");
        CHECK.fault(1, "@;");
        CHECK.fault(1, "@a");
        CHECK.fault(1, "@5");
        CHECK.fault(1, GROUND + "@;");
        for (String word : WORDS) {
            boolean tells = word.equals("ground") || word.equals("oath") || word.equals("bargain") || word.equals("claim");
            CHECK.fault(1, tells ? word + "@" : "@" + word);
        }
        CHECK.about("TELL: 'ground' NAME INT INT ';'");
        cut("ground b 2 2 ;");
        CHECK.fault(1, GROUND + "@b 2 2; $");
        CHECK.fault(1, GROUND + "ground @2 2; $");
        CHECK.fault(1, GROUND + "ground b 2 @; $");
        CHECK.fault(1, GROUND + "ground b 2 2 @$");
        CHECK.fault(1, "ground a 1 1 @1;");
        CHECK.about("'oath' NAME SIDE 'gives' SIDE ';'");
        cut("oath o a + a gives a ;");
        dropped("oath o nothing gives a ;");
        CHECK.fault(1, GROUND + "oath o a @; $");
        CHECK.fault(1, GROUND + "oath o @; $");
        CHECK.fault(1, "oath o nothing gives nothing @or nothing;");
        CHECK.about("'bargain' NAME SIDE 'gives' SIDE ['or' SIDE] ';'");
        cut("bargain p a gives nothing ;");
        cut("bargain p nothing gives a or a + a ;");
        dropped("bargain p nothing gives a or nothing ;");
        CHECK.fault(1, GROUND + "bargain p a gives @; $");
        CHECK.fault(1, GROUND + "bargain p a gives a or @; $");
        CHECK.fault(1, "bargain p nothing gives nothing or nothing @or nothing;");
        CHECK.fault(1, "bargain p nothing gives nothing @any nothing;");
        CHECK.about("'claim' NAME INT '=' C ';'");
        cut("claim k 1 = rest ;");
        dropped("claim k 1 = rest ;");
        dropped("claim k 1 = nothing * a ;");
        CHECK.fault(1, "ground a @; $");
        CHECK.fault(1, "ground a 1 @; $");
        CHECK.fault(1, "claim k @= rest;");
    }

    private static void sides() {
        CHECK.about("SIDE: 'nothing' | NAME {'+' NAME}.");
        String[] wrong = {"@gives a;", "nothing @+a gives a;", "a+@nothing gives a;", "a+@gives a;", "a @a gives a;",
            "@+a gives a;", "a+@+a gives a;", "@(a) gives a;", "a gives @;", "a gives nothing@+a;", "a gives @rest;",
            "a@*a gives a;", "@1 gives a;"};
        for (String sides : wrong) {
            CHECK.fault(1, GROUND + "oath o " + sides);
            CHECK.fault(1, GROUND + "bargain o " + sides);
        }
        CHECK.fault(1, GROUND + "bargain p a gives a or @;");
        CHECK.fault(1, GROUND + "bargain p a gives a or nothing@+a;");
        CHECK.fault(1, GROUND + "claim k 1=[@]a;");
        CHECK.fault(1, GROUND + "claim k 1=[nothing@+a]a;");
        CHECK.fault(1, GROUND + "claim k 1=[a@*a]a;");
        CHECK.fault(1, GROUND + "claim k 1=[@rest]a;");
        CHECK.fault(1, GROUND + "claim k 1=[a@;");
        CHECK.fault(1, GROUND + "claim k 1=[a]@;");
    }

    private static void point(GroundCourt court, int point, int kind, int first, int second) {
        CHECK.same("kind of POINT " + point, court.point(point, 0), kind);
        CHECK.same("first part of POINT " + point, court.point(point, 1), first);
        CHECK.same("second part of POINT " + point, court.point(point, 2), second);
    }

    private static void whatBindsMore() {
        CHECK.about("C: T {'or' T}. T: F {'any' F}. F: U {'*' U}.");
        GroundCourt court = Check.told("claim k 1=rest or nothing any rest*rest;");
        point(court, 4, 5, 2, 3);
        point(court, 5, 4, 1, 4);
        point(court, 6, 3, 0, 5);
        GroundCourt other = Check.told("claim k 1=rest*nothing any rest or rest;");
        point(other, 2, 5, 0, 1);
        point(other, 4, 4, 2, 3);
        point(other, 6, 3, 4, 5);
        GroundCourt bracketed = Check.told("claim k 1=rest*(nothing any (rest or rest));");
        point(bracketed, 4, 3, 2, 3);
        point(bracketed, 5, 4, 1, 4);
        point(bracketed, 6, 5, 0, 5);
        for (String sign : new String[] {"*", " any ", " or "}) {
            CHECK.fault(1, "claim k 1=@" + sign.trim() + " rest;");
            CHECK.fault(1, "claim k 1=rest" + sign + "@;");
            CHECK.fault(1, "claim k 1=rest" + sign + "@" + sign.trim() + " rest;");
            CHECK.fault(1, "claim k 1=(rest" + sign + "@);");
        }
    }

    private static void units() {
        CHECK.about("U: NAME | 'nothing' | 'rest' | 'ever' U | '[' SIDE ']' U | '(' C ')'.");
        for (String unit : new String[] {"a", "nothing", "rest", "ever a", "[a]a", "(a)", "ever[a](ever a)"}) {
            CHECK.fine(GROUND + "claim k 1=" + unit + ";");
        }
        CHECK.fault(1, "claim k 1=(@);");
        CHECK.fault(1, "claim k 1=(rest@;");
        CHECK.fault(1, "claim k 1=rest@);");
        CHECK.fault(1, "claim k 1=(rest)@);");
        CHECK.fault(1, "claim k 1=(rest@];");
        CHECK.fault(1, "claim k 1=ever@;");
        CHECK.fault(1, "claim k 1=ever@*rest;");
        CHECK.fault(1, "claim k 1=rest @rest;");
        CHECK.fault(1, "claim k 1=@;");
        CHECK.fault(1, "claim k 1=@1;");
        CHECK.fault(1, "claim k 1=@gives;");
        GroundCourt court = Check.told("claim k 1=ever rest*nothing;");
        point(court, 1, 6, 0, -1);
        point(court, 3, 5, 1, 2);
        GroundCourt given = Check.told("claim k 1=[nothing]rest*nothing;");
        point(given, 1, 7, 0, 0);
        point(given, 3, 5, 1, 2);
    }

    private static void leastAndMost() {
        CHECK.about("GROUNDS (a PRICE 1 .. 99, how many there are, 0 .. 3)");
        for (int price : new int[] {1, 2, 98, 99}) {
            CHECK.same("PRICE", Check.told("ground a " + price + " 0;").price(0), price);
        }
        for (int many = 0; many <= 3; many++) {
            CHECK.same("STOCK", Check.told("ground a 1 " + many + ";").stock(0), many);
        }
        CHECK.about("CLAIMS (a WORTH 0 .. 99)");
        for (int worth : new int[] {0, 1, 98, 99}) {
            CHECK.same("WORTH", Check.told("claim k " + worth + "=rest;").count(20), worth);
        }
    }

    private static void numbers() {
        CHECK.about("are numbered each from 0 on as they stand.");
        GroundCourt court = Check.told("claim k 7=rest;ground a 11 1;bargain p nothing gives a;oath o a gives nothing;"
                + "claim m 8=a;ground b 12 2;oath n nothing gives b;bargain q b gives nothing;claim z 9=b;");
        CHECK.same("PRICE 0", court.price(0), 11);
        CHECK.same("PRICE 1", court.price(1), 12);
        for (int claim = 0; claim < 3; claim++) {
            CHECK.same("WORTH " + claim, court.count(20 + claim), 7 + claim);
            CHECK.same("POINT of CLAIM " + claim, court.pointOf(claim), claim);
        }
        CHECK.same("OATH 0 takes an a", court.move(0, 1, 0, 1, 0), 10);
        CHECK.same("OATH 1 takes nothing", court.move(0, 0, 0, 1, 0), 11);
        CHECK.same("BARGAIN 1 takes a b", court.moves(0, 4, 2), 3);
        CHECK.same("BARGAIN 1 takes a b", court.move(0, 4, 2, 2, 0), 21);
        CHECK.about("A STOCK: how many of each GROUND, 0 .. 3; as a number: of GROUND 0, 4 times that of GROUND 1,"
                + " 16 times that of 2, 64 times that of 3.");
        CHECK.same("the empty STOCK", Check.told("ground a 1 0;ground b 1 0;ground c 1 0;ground d 1 0;").count(5), 0);
        CHECK.same("the full STOCK", Check.told("ground a 1 3;ground b 1 3;ground c 1 3;ground d 1 3;").count(5), 255);
        CHECK.same("a STOCK", Check.told("ground a 1 1;ground b 1 2;ground c 1 3;ground d 1 1;").count(5), 1 + 8 + 48 + 64);
    }

    private static void points() {
        CHECK.about("each U that is a NAME, 'nothing' or 'rest', each ever, each [ ], each 'or', 'any', '*' that joins two"
                + " (a row of three is first two and then one more)");
        CHECK.same("( ) is none", Check.told("claim k 1=((((((rest))))));").count(4), 1);
        CHECK.same("a SIDE has none", Check.told(GROUND + "oath o a gives a;claim k 1=[a+a]rest;").count(4), 2);
        int kind = 3;
        for (String sign : new String[] {" or ", " any ", "*"}) {
            GroundCourt court = Check.told("claim k 1=rest" + sign + "nothing" + sign + "rest;");
            CHECK.same("POINTS", court.count(4), 5);
            point(court, 2, kind, 0, 1);
            point(court, 4, kind, 2, 3);
            GroundCourt right = Check.told("claim k 1=rest" + sign + "(nothing" + sign + "rest);");
            point(right, 3, kind, 1, 2);
            point(right, 4, kind, 0, 3);
            kind++;
        }
        CHECK.about("numbered from 0 on through the text, each as it ends (of what is joined the sign behind both)");
        GroundCourt court = Check.told("claim k 1=ever rest;claim m 1=[nothing]nothing or rest;");
        point(court, 0, 2, -1, -1);
        point(court, 1, 6, 0, -1);
        point(court, 2, 1, -1, -1);
        point(court, 3, 7, 2, 0);
        point(court, 4, 2, -1, -1);
        point(court, 5, 3, 3, 4);
        CHECK.same("POINTS", court.count(4), 6);
    }

    private static void theFirstByItsPlace() {
        CHECK.about("FAULTS of a text, the first by its place (a byte; the text's end: its length), of one place the least");
        CHECK.fault(1, "@$");
        CHECK.fault(1, " @$ $");
        CHECK.fault(1, "ground a 1 1@");
        CHECK.fault(1, "ground a 1 1   @");
        CHECK.fault(1, "ground a 1 1\n\t\r@");
        CHECK.fault(2, "claim k 1=((((((@(rest $");
        CHECK.fault(1, "claim k 1=((((((@$(rest");
        CHECK.fault(1, "claim k 1=@$;claim m 1=(((((((rest)))))));");
        CHECK.fault(1, of400Tokens() + "@=");
        CHECK.about("1 SYNTAX: a TOKEN, or what is none, with which no text goes on.");
        CHECK.fault(1, "ground @1 a 1;");
        CHECK.fault(1, "ground a 1 1@$;");
        CHECK.fault(1, "ground a 1 1@\u0000;");
        CHECK.fault(1, "ground a 1 1@\u00ff;");
    }

    /** No FAULT: 20 of GROUNDS, 150 of OATHS, 222 of BARGAINS, 8 of a CLAIM. */
    private static String of400Tokens() {
        return manyTokens() + "claim k 1=(rest);";
    }

    private static String manyTokens() {
        String side = "a+a+a+b+b+b+c+c+c+d+d+d";
        StringBuilder text = new StringBuilder("ground a 1 1;ground b 1 1;ground c 1 1;ground d 1 1;");
        for (char name = 'e'; name < 'h'; name++) {
            text.append("oath ").append(name).append(' ').append(side).append(" gives ").append(side).append(';');
        }
        for (char name = 'h'; name < 'k'; name++) {
            text.append("bargain ").append(name).append(' ').append(side).append(" gives ").append(side);
            text.append(" or ").append(side).append(';');
        }
        return text.toString();
    }

    private static void tokens() {
        CHECK.about("2 ROOM: a 401st TOKEN");
        String most = of400Tokens();
        CHECK.fine(most);
        CHECK.fine(most + " \n");
        CHECK.fault(2, most + "@claim");
        CHECK.fault(2, most + " @claim m 1=rest;");
        CHECK.fault(2, most + "@ground");
        CHECK.fault(1, most + "@;");
        CHECK.fault(1, most + "@zz");
        CHECK.fault(1, most + "@claimclai");
        CHECK.fault(1, most + "@$");
        CHECK.fault(2, manyTokens() + "claim k 1=ever(rest)@;");
        CHECK.fault(2, manyTokens() + "claim k 1=((rest)@);");
        CHECK.fault(2, manyTokens() + "claim k 1=(rest*rest@);");
        CHECK.fault(2, manyTokens() + "claim k 1=(rest)*@rest;");
        CHECK.fault(2, manyTokens() + "claim k 1=rest*rest*@e;");
        CHECK.fault(1, manyTokens() + "claim k 1=ever(rest)@");
        CHECK.fault(1, manyTokens() + "claim k 1=ever(rest)@)");
        CHECK.fault(1, manyTokens() + "claim k 1=(rest*rest@];");
    }

    /** So many TOKENS, without a FAULT of 1 and 2. */
    private static String padding(int tokens) {
        String odd = "ground a 1 1;oath z a" + "+a".repeat((tokens - 11) / 2 - (tokens % 2 == 0 ? 3 : 0)) + " gives nothing;";
        return tokens % 2 == 0 ? odd + "claim zz 1=ever rest;" : odd;
    }

    /** Each TOKEN of a TELL as the 401st one. */
    private static void atEachToken(String tell) {
        String[] tokens = tell.split(" ");
        for (int ahead = 0; ahead < tokens.length; ahead++) {
            StringBuilder text = new StringBuilder(padding(400 - ahead));
            for (int i = 0; i < tokens.length; i++) {
                text.append(i == ahead ? " @" : " ").append(tokens[i]);
            }
            CHECK.fault(2, text + " $");
        }
    }

    private static void theTokenAfterFourHundred() {
        CHECK.about("2 ROOM: a 401st TOKEN;");
        CHECK.fault(5, padding(399).replace("z a+a+a+", "z a+a+a+@"));
        CHECK.fault(5, padding(400).replace("z a+a+a+", "z a+a+a+@"));
        CHECK.fault(1, padding(400) + "@$");
        atEachToken("ground b 1 1 ;");
        atEachToken("oath o a + a gives a + a ;");
        atEachToken("oath o nothing gives nothing ;");
        atEachToken("bargain p a gives a or a + a ;");
        atEachToken("bargain p nothing gives nothing or nothing ;");
        atEachToken("claim k 1 = a * [ a + a ] ( ever nothing any rest ) or a ;");
        atEachToken("claim k 1 = [ nothing ] a ;");
    }

    private static final String[] TELLS = {"ground X 1 1;", "oath X nothing gives nothing;",
        "bargain X nothing gives nothing;", "claim X 1=rest;"};

    private static void tooManyTells() {
        CHECK.about("a 5th ground, a 4th oath, a 4th bargain, a 7th claim (at its first TOKEN)");
        int[] most = {4, 3, 3, 6};
        for (int i = 0; i < TELLS.length; i++) {
            StringBuilder text = new StringBuilder();
            for (int n = 0; n < most[i]; n++) {
                text.append(TELLS[i].replace('X', (char) ('a' + n)));
            }
            CHECK.fine(text.toString());
            CHECK.fault(2, text + "@" + TELLS[i].replace('X', 'z'));
            CHECK.fault(2, text + " @" + TELLS[i].replace('X', 'a'));
            CHECK.fault(2, text + "@" + WORDS[i]);
            CHECK.fault(2, text + "@" + WORDS[i] + " $");
            GroundCourt court = new GroundCourt();
            Check.feed(court, text.toString());
            CHECK.same("read", court.read(), 0);
            CHECK.same("count(" + i + ")", court.count(i), most[i]);
        }
    }

    private static void tooManyPoints() {
        CHECK.about("a 25th POINT (at the TOKEN by which it ends: its last one, of what is joined the last one of the"
                + " second part)");
        String of23 = GROUND + "claim k 1=rest" + "*rest".repeat(11);
        CHECK.fine(of23 + ";");
        CHECK.fine(of23 + ";claim m 1=rest;");
        CHECK.same("POINTS", Check.told(of23 + ";claim m 1=rest;").count(4), 24);
        String of24 = of23 + ";claim m 1=rest;";
        for (String leaf : new String[] {"a", "nothing", "rest"}) {
            CHECK.fault(2, of24 + "claim n 1=@" + leaf + ";");
            CHECK.fault(2, of24 + "claim n 1=ever(@" + leaf + ");");
            CHECK.fault(2, of24 + "claim n 1=@" + leaf + " $");
            CHECK.fault(2, of23 + ";claim m 1=ever @" + leaf + ";");
            CHECK.fault(2, of23 + ";claim m 1=[a+a]@" + leaf + ";");
            CHECK.fault(2, of23 + ";claim m 1=ever(" + leaf + "@);");
            CHECK.fault(2, of23 + ";claim m 1=[a](( " + leaf + ") @) ;");
            for (String sign : new String[] {"*", " any ", " or "}) {
                CHECK.fault(2, of23 + sign + "@" + leaf + ";");
                CHECK.fault(2, of23 + sign + "(" + leaf + "@);");
                CHECK.fault(2, of23 + sign + "@" + leaf + " $");
                CHECK.fault(2, of23 + sign + "@" + leaf);
            }
        }
        CHECK.fault(2, of23 + " or rest*@rest;");
        CHECK.fault(2, of23 + " or rest any @rest;");
        CHECK.fault(1, of23 + " or rest*@$");
        CHECK.fault(1, of23 + " or ever@;");
        CHECK.fault(1, of23 + ";claim m 1=ever@;");
        CHECK.fault(1, of23 + " or (rest@;");
        CHECK.fault(2, of24 + "claim n 1=ever @rest or (((((((rest)))))));");
    }

    private static void nestedTooDeep() {
        CHECK.about("a 7th ( , [ or ever within one another (at it)");
        String[] opens = {"(", "[nothing]", "ever "};
        String[] closes = {")", "", ""};
        for (int outer = 0; outer < 3; outer++) {
            String six = "claim k 1=" + opens[outer].repeat(6);
            String end = closes[outer].repeat(6);
            CHECK.fine(six + "rest" + end + ";");
            for (int inner = 0; inner < 3; inner++) {
                CHECK.fault(2, six + "@" + opens[inner] + "rest" + closes[inner] + end + ";");
                CHECK.fault(2, six + "@" + opens[inner].trim());
            }
            CHECK.fault(1, six + "@$");
        }
        CHECK.fine("claim k 1=ever([nothing](ever(rest)));");
        CHECK.fault(2, "claim k 1=ever([nothing](ever(@ever rest)));");
        CHECK.fault(2, "claim k 1=ever([nothing](ever(rest*@[nothing]rest)));");
        CHECK.fine("claim k 1=(rest)*(rest)*(rest)*(rest)*(rest)*(rest)*(rest)*(rest);");
        CHECK.fine("claim k 1=ever rest*ever rest*ever rest*ever rest*ever rest*ever rest*ever rest;");
        CHECK.fine("claim k 1=((((((rest))))))*[nothing](((((rest)))));");
        CHECK.fine("claim k 1=((((((rest))))));claim m 1=((((((rest))))));");
    }

    private static void twice() {
        CHECK.about("If there is none, likewise: 3 TWICE: a NAME told already (of all kinds together).");
        for (int i = 0; i < 4; i++) {
            for (int j = 0; j < 4; j++) {
                String first = TELLS[i].replace("X", "same");
                CHECK.fault(3, first + TELLS[j].replace("X", "@same"));
                CHECK.fine(first + TELLS[j].replace("X", "samee"));
            }
        }
        CHECK.fault(3, GROUND + "ground @a 0 9;");
        CHECK.fault(5, "ground a @0 9;ground a 1 1;");
        CHECK.fault(3, GROUND + "claim @a 100=b;");
        for (String early : new String[] {GROUND + GROUND, GROUND + "claim k 1=b;", "ground a 0 1;", "claim k 100=rest;",
            GROUND + "oath o a+a+a+a gives a;"}) {
            CHECK.fault(1, early + "@$");
            CHECK.fault(1, early + "claim z 1=rest@");
            CHECK.fault(2, early + "claim z 1=((((((@(rest)))))));");
        }
    }

    private static void noGroundToldAhead() {
        CHECK.about("4 NAME: in a SIDE or a CLAIM no GROUND told ahead.");
        String[] tells = {"oath o @Y gives a;", "oath o a gives @Y;", "oath o a+@Y gives a;", "bargain p @Y gives a;",
            "bargain p a gives @Y;", "bargain p a gives a or @Y;", "bargain p a gives a or a+@Y;", "claim k 1=@Y;",
            "claim k 1=a or @Y;", "claim k 1=[@Y]a;", "claim k 1=[a+@Y]a;", "claim k 1=[a]@Y;", "claim k 1=ever(a*@Y);"};
        for (String tell : tells) {
            CHECK.fault(4, GROUND + tell.replace("Y", "zz"));
            CHECK.fault(4, GROUND + tell.replace("Y", "zz") + "ground zz 1 1;");
            CHECK.fine(GROUND + "ground zz 1 1;" + tell.replace("@Y", "zz"));
            for (String other : new String[] {"oath zz a gives a;", "bargain zz a gives a;", "claim zz 1=a;"}) {
                CHECK.fault(4, GROUND + other + tell.replace("Y", "zz"));
            }
        }
        CHECK.fault(4, GROUND + "oath o @o gives a;");
        CHECK.fault(4, GROUND + "bargain p a gives @p;");
        CHECK.fault(4, GROUND + "claim k 1=@k;");
    }

    private static void wrong() {
        CHECK.about("5 WRONG (at the INT): a PRICE not 1 .. 99, more than 3 of a GROUND, a WORTH above 99");
        for (String number : new String[] {"0", "00", "0000", "100", "0100", "101", "355", "9999"}) {
            CHECK.fault(5, "ground a @" + number + " 1;");
        }
        for (String number : new String[] {"4", "0004", "5", "16", "256", "9999"}) {
            CHECK.fault(5, "ground a 1 @" + number + ";");
        }
        for (String number : new String[] {"100", "0100", "101", "256", "9999"}) {
            CHECK.fault(5, "claim k @" + number + "=rest;");
        }
        CHECK.fault(5, "ground a @0 4;");
        CHECK.about("(at a NAME) a 4th of one GROUND in one SIDE.");
        String[] tells = {"oath o Y gives a;", "oath o a gives Y;", "bargain p Y gives a;", "bargain p a gives Y;",
            "bargain p a gives a or Y;", "claim k 1=[Y]a;"};
        for (String tell : tells) {
            CHECK.fine(GROUND + tell.replace("Y", "a+a+a"));
            CHECK.fault(5, GROUND + tell.replace("Y", "a+a+a+@a"));
            CHECK.fault(5, GROUND + tell.replace("Y", "a+a+a+@a+a"));
            CHECK.fine(GROUND + "ground b 1 1;" + tell.replace("Y", "b+a+b+a+b+a"));
            CHECK.fault(5, GROUND + "ground b 1 1;" + tell.replace("Y", "b+a+b+a+b+a+@b+a"));
        }
        CHECK.fine(GROUND + "bargain p a+a+a gives a+a+a or a+a+a;oath o a+a+a gives a+a+a;claim k 1=[a+a+a][a+a+a]a;");
        CHECK.fault(4, GROUND + "oath o @b+a+a+a+a gives a;");
        CHECK.fault(5, GROUND + "oath o a+a+a+@a+b gives a;");
    }

    private static final String LAW = "ground a 5 2;ground b 7 1;oath o a gives b;bargain p a gives b or a+a;"
            + "claim k 10=a*b or rest;claim m 2=rest;";

    private static GroundCourt inUse() {
        GroundCourt court = Check.told(LAW);
        court.put(0, 3);
        court.hold(0);
        court.put(0, 0);
        court.oath(0, false);
        court.bargain(0, false);
        court.hold(2);
        court.sit(0);
        Check.feed(court, "rest");
        court.judge(1);
        return court;
    }

    private static void changesNothing() {
        CHECK.about("A text with a FAULT changes nothing but the tape");
        String[] texts = {"ground z 1 1;$", "ground z 1 1;claim k 1=(((((((rest)))))));", "ground z 1 1;ground z 1 1;",
            "ground z 1 1;claim k 1=y;", "ground z 1 1;claim k 100=rest;"};
        for (int i = 0; i < texts.length; i++) {
            GroundCourt court = inUse();
            String before = State.of(court);
            Check.feed(court, texts[i]);
            CHECK.same("read of " + texts[i], court.read(), i + 1);
            CHECK.same("state behind FAULT " + (i + 1), State.of(court), before);
            CHECK.same("the tape is empty", court.count(8), 0);
            CHECK.same("POINTS", court.point(4, 0), 3);
            CHECK.same("a SLOT", court.restore(0), true);
            CHECK.same("STOCK of the SLOT", court.count(5), 3 + 4);
            CHECK.same("OATHS of the SLOT", court.count(6), 1);
            CHECK.same("an empty SLOT", court.restore(1), false);
        }
    }

    private static void isInPlaceOfTheOneAhead() {
        CHECK.about("else it is in place of the one ahead: the STOCK as told, all OATHS hold, no BARGAIN is made yet,"
                + " no SITTING; SLOTS hold nothing.");
        GroundCourt court = inUse();
        Check.feed(court, LAW);
        CHECK.same("read", court.read(), 0);
        CHECK.same("as a new one", State.andPlace(court), State.andPlace(Check.told(LAW)));
        for (int slot = 0; slot < 3; slot++) {
            CHECK.same("SLOT " + slot, court.restore(slot), false);
        }
        CHECK.same("no SITTING", court.go(0), -1);
        GroundCourt emptied = inUse();
        CHECK.same("read of no text", emptied.read(), 0);
        CHECK.same("nothing is told", State.andPlace(emptied), State.andPlace(new GroundCourt()));
        GroundCourt three = Check.told("ground a 1 0;oath o a gives a;oath n a gives a;oath l a gives a;"
                + "bargain p a gives a;bargain q a gives a;bargain r a gives a;");
        CHECK.same("OATHS", three.count(6), 7);
        CHECK.same("BARGAINS", three.count(7), 7);
        Check.feed(three, "ground a 1 2;oath o a gives a;");
        CHECK.same("read", three.read(), 0);
        CHECK.same("STOCK", three.count(5), 2);
        CHECK.same("OATHS", three.count(6), 1);
        CHECK.same("BARGAINS", three.count(7), 0);
    }

    /** What was read of texts with FAULTS, and of the one ahead, is not in the one that comes behind. */
    private static void textsBehindTexts() {
        CHECK.about("A text with a FAULT changes nothing but the tape; else it is in place of the one ahead");
        String early = "ground a 9 3;ground c 9 3;oath o a gives c;bargain p a gives c or a;claim k 9=rest;claim m 9=a*c or rest;";
        String later = "ground b 1 1;oath r b gives b;bargain s b gives b;claim t 5=b;";
        GroundCourt court = new GroundCourt();
        for (String text : new String[] {early + "$", early, early + "claim m 1=rest;", early + "claim n 1=z;", later}) {
            Check.feed(court, text);
            court.read();
            court.stocks(0);
            court.stocks(1);
        }
        CHECK.same("as on a new object", State.andPlace(court), State.andPlace(Check.told(later)));
        CHECK.same("stocks(0)", court.stocks(0), 1);
        CHECK.same("POINTS", court.point(0, 0), 0);
        CHECK.same("POINTS", court.point(1, 0), -1);
        Check.feed(court, "ground b 1 1;oath r b gives b;bargain s b gives b;claim t 6=nothing;");
        CHECK.same("read", court.read(), 0);
        CHECK.same("can(0)", court.can(0), -2);
        CHECK.same("together(0)", court.together(0), -2);
        Check.feed(court, "ground k 1 1;oath a k gives k;bargain b k gives k;claim c 7=k;");
        CHECK.same("NAMES of texts ahead are free", court.read(), 0);
        CHECK.same("together(0)", court.together(0), 7);
        Check.feed(court, "ground k 1 1;claim c 7=b;");
        CHECK.same("and are no GROUNDS", court.read(), 4);
    }

    public static void main(String[] args) {
        atMostTwoThousandBytes();
        theLongestThatCanBe();
        allBytesBetweenTokens();
        names();
        ints();
        signs();
        tells();
        sides();
        whatBindsMore();
        units();
        leastAndMost();
        numbers();
        points();
        theFirstByItsPlace();
        tokens();
        theTokenAfterFourHundred();
        tooManyTells();
        tooManyPoints();
        nestedTooDeep();
        twice();
        noGroundToldAhead();
        wrong();
        changesNothing();
        isInPlaceOfTheOneAhead();
        textsBehindTexts();
        CHECK.finish("EdgesOfTextsTest");
    }
}
