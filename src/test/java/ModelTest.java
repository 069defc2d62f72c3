import java.util.ArrayList;
import java.util.List;
import java.util.Random;

/** Runs of calls by chance on GroundCourt and on SlowCourt, which must answer alike. */
public final class ModelTest {
    private static final String[] NAMES = {"a", "b", "c", "d", "is", "left", "use", "x", "given", "abcdefgh", "none"};
    private static final String[] JUNK = {"ground", "oath", "bargain", "claim", "gives", "or", "any", "nothing", "rest",
        "ever", ";", "=", "+", "*", "(", ")", "[", "]", "0", "3", "99", "100", "12345", "abcdefghi", "A", "$", "a", "b",
        "zz", "is", "none", "left", "right", "each", "split", "given", "use", "\u00e9"};

    private final Random random;
    private final GroundCourt court = new GroundCourt();
    private final SlowCourt slow = new SlowCourt();
    private final List<String> log = new ArrayList<>();
    private int calls;
    private final int size;
    private static int wrong;
    private static long asked;

    private ModelTest(long seed) {
        random = new Random(seed);
        size = random.nextInt(10) == 0 ? 4 : 1 + random.nextInt(3);
    }

    private int upTo(int n) {
        return random.nextInt(n + 1);
    }

    private boolean chance(int percent) {
        return random.nextInt(100) < percent;
    }

    private void same(String call, long got, long due) {
        calls++;
        asked++;
        log.add(call + " = " + got);
        if (got != due) {
            wrong++;
            System.out.println("wrong: " + call + " answered " + got + ", due is " + due + "; run:");
            for (String line : log) {
                System.out.println("    " + line);
            }
            throw new IllegalStateException();
        }
    }

    private static long n(boolean b) {
        return b ? 1 : 0;
    }

    // ---- texts

    private String side(int grounds) {
        if (grounds == 0 || chance(20)) {
            return "nothing";
        }
        StringBuilder s = new StringBuilder();
        int n = 1 + upTo(chance(30) ? 2 : 1);
        for (int i = 0; i < n; i++) {
            s.append(i == 0 ? "" : " + ").append(NAMES[random.nextInt(grounds)]);
        }
        return s.toString();
    }

    private String claim(int grounds, int budget) {
        if (budget <= 1) {
            int kind = random.nextInt(12);
            return kind == 0 ? "nothing" : kind <= 2 ? "rest" : grounds == 0 ? "rest" : NAMES[random.nextInt(grounds)];
        }
        switch (random.nextInt(10)) {
            case 0: return "ever " + wrapped(claim(grounds, budget - 1));
            case 1: return "[" + side(grounds) + "] " + wrapped(claim(grounds, budget - 1));
            default:
        }
        int left = 1 + random.nextInt(budget - 1);
        String[] joins = {" or ", " any ", " * ", "*", " * "};
        String join = joins[random.nextInt(joins.length)];
        String one = claim(grounds, left);
        String two = claim(grounds, budget - left);
        return (chance(60) ? wrapped(one) : one) + join + (chance(60) ? wrapped(two) : two);
    }

    private static String wrapped(String s) {
        return s.indexOf(' ') < 0 && s.indexOf('*') < 0 ? s : "(" + s + ")";
    }

    private String text() {
        StringBuilder s = new StringBuilder();
        int grounds = size;
        for (int i = 0; i < grounds; i++) {
            s.append("ground ").append(NAMES[i]).append(' ').append(1 + upTo(chance(50) ? 3 : 98)).append(' ')
                    .append(upTo(3)).append(";\n");
        }
        int oaths = upTo(3);
        for (int i = 0; i < oaths; i++) {
            s.append("oath o").append("abc".charAt(i)).append(' ').append(side(grounds)).append(" gives ")
                    .append(side(grounds)).append("; ");
        }
        int bargains = upTo(grounds == 4 ? 1 : 3);
        for (int i = 0; i < bargains; i++) {
            s.append("bargain p").append("abc".charAt(i)).append(' ').append(side(grounds)).append(" gives ")
                    .append(side(grounds)).append(chance(60) ? " or " + side(grounds) : "").append(";");
        }
        int claims = chance(10) ? 0 : 1 + upTo(5);
        int room = chance(5) ? 40 : 12;
        for (int i = 0; i < claims && room > 0; i++) {
            int leaves = 1 + upTo(Math.min(room - 1, chance(50) ? 2 : chance(90) ? 6 : 13));
            room -= leaves;
            s.append("claim k").append("abcdef".charAt(i)).append(' ').append(upTo(chance(50) ? 3 : 99)).append(" = ")
                    .append(claim(grounds, leaves)).append(";\t");
        }
        return s.toString();
    }

    private String mutated(String text) {
        String s = text;
        int times = 1 + upTo(2);
        for (int i = 0; i < times; i++) {
            int at = upTo(s.length());
            int to = Math.min(s.length(), at + upTo(4));
            switch (random.nextInt(9)) {
                case 6:
                case 7:
                case 8: s = withTokenOfItsKind(s); break;
                case 0: s = s.substring(0, at); break;
                case 1: s = s.substring(0, at) + s.substring(to); break;
                case 2: s = s.substring(0, at) + JUNK[random.nextInt(JUNK.length)] + s.substring(at); break;
                case 3: s = s.substring(0, at) + " " + JUNK[random.nextInt(JUNK.length)] + " " + s.substring(to); break;
                case 4: s = replacedToken(s); break;
                default: s = s + " " + JUNK[random.nextInt(JUNK.length)] + " ";
            }
        }
        return s.length() > 1990 ? s.substring(0, 1990) : s;
    }

    private String replacedToken(String s) {
        List<SlowCourt.Token> tokens = SlowCourt.tokens(s);
        SlowCourt.Token t = tokens.get(random.nextInt(tokens.size()));
        SlowCourt.Token u = tokens.get(random.nextInt(tokens.size()));
        String with = chance(50) ? u.text() : JUNK[random.nextInt(JUNK.length)];
        return s.substring(0, t.place()) + " " + with + " " + s.substring(t.place() + t.text().length());
    }

    /** So that a text is often well formed and wrong all the same. */
    private String withTokenOfItsKind(String s) {
        List<SlowCourt.Token> names = new ArrayList<>();
        List<SlowCourt.Token> ints = new ArrayList<>();
        for (SlowCourt.Token t : SlowCourt.tokens(s)) {
            if (SlowCourt.isName(t)) {
                names.add(t);
            } else if (SlowCourt.isInt(t)) {
                ints.add(t);
            }
        }
        List<SlowCourt.Token> some = chance(70) || ints.isEmpty() ? names : ints;
        if (some.isEmpty()) {
            return s;
        }
        SlowCourt.Token t = some.get(random.nextInt(some.size()));
        String with = some == ints ? String.valueOf(chance(50) ? upTo(5) : 98 + upTo(3))
                : some.get(random.nextInt(some.size())).text();
        return s.substring(0, t.place()) + with + s.substring(t.place() + t.text().length());
    }

    private void feed(String s) {
        log.add("tape: " + s.replace("\n", "\\n"));
        Check.feed(court, s);
        for (int i = 0; i < s.length(); i++) {
            slow.tape.append(s.charAt(i));
        }
        calls += s.length() / 20 + 2;
        same("count(8)", court.count(8), slow.count(8));
    }

    private void tellText() {
        back(slow.tape.length());
        String s = text();
        feed(chance(25) ? mutated(s) : s.length() > 1990 ? s.substring(0, 1990) : s);
        same("read()", court.read(), slow.read());
        same("place()", court.place(), slow.place());
        for (int what = 0; what <= 11; what++) {
            same("count(" + what + ")", court.count(what), slow.count(what));
        }
    }

    private void back(int n) {
        same("back(" + n + ")", court.back(n), slow.back(n));
    }

    // ---- SHOWINGS

    private String told(SlowCourt.Node node, int idle) {
        StringBuilder s = new StringBuilder();
        SlowCourt.Move move = node.move();
        if (idle > 0 && chance(30)) {
            for (SlowCourt.Move other : slow.movesOf(node.place(), slow.oaths)) {
                boolean oath = other.kind() >= 10 && other.kind() < 20;
                if (oath && chance(70)) {
                    SlowCourt.Node next = slow.tree(other.leads().get(0), slow.oaths);
                    if (next != null) {
                        return "use " + slow.text.oathNames.get(other.kind() - 10) + " " + told(next, idle - 1);
                    }
                }
            }
        }
        String[] words = {"is", "none", "rest", "left", "right", "each", "split", "ever", "given"};
        if (move.kind() >= 20) {
            s.append("use ").append(slow.text.bargainNames.get(move.kind() - 20));
        } else if (move.kind() >= 10) {
            s.append("use ").append(slow.text.oathNames.get(move.kind() - 10));
        } else {
            s.append(words[move.kind()]);
        }
        if (move.kind() == 6) {
            s.append(' ').append(sideText(move.splitStock())).append(" (");
            for (int b = 0; b < 3; b++) {
                s.append((move.splitSet() & 1 << b) != 0 ? " " + slow.text.bargainNames.get(b) : "");
            }
            s.append(")");
        }
        for (SlowCourt.Node below : node.below()) {
            s.append(' ').append(told(below, idle));
        }
        return s.toString();
    }

    private String sideText(int stock) {
        StringBuilder s = new StringBuilder();
        int[] digits = SlowCourt.digits(stock);
        for (int g = 0; g < 4; g++) {
            int n = digits[g] == 3 && chance(5) ? 4 : digits[g];
            for (int i = 0; i < n; i++) {
                s.append(s.length() == 0 ? "" : "+").append(slow.text.grounds.get(g));
            }
        }
        return s.length() == 0 ? "nothing" : s.toString();
    }

    /** A SHOWING with steps by chance: often wrong somewhere. */
    private String wild(SlowCourt.Place place, int level) {
        List<SlowCourt.Move> moves = slow.movesOf(place, chance(90) ? slow.oaths : 7);
        if (moves.isEmpty() || level > 70) {
            return JUNK[random.nextInt(JUNK.length)];
        }
        SlowCourt.Move move = moves.get(random.nextInt(moves.size()));
        List<SlowCourt.Node> none = new ArrayList<>();
        StringBuilder s = new StringBuilder(told(new SlowCourt.Node(place, move, none), 0));
        for (SlowCourt.Place lead : move.leads()) {
            if (s.length() < 1900) {
                s.append(' ').append(wild(lead, level + 1));
            }
        }
        return s.toString();
    }

    private void judgeOne() {
        int claims = slow.text.roots.size();
        int claim = claims == 0 || chance(5) ? claims : random.nextInt(claims);
        String s = "is";
        if (claim < claims) {
            SlowCourt.Node tree = slow.tree(slow.placeOf(claim), slow.oaths);
            s = tree == null || chance(25) ? wild(slow.placeOf(claim), 1) : told(tree, upTo(8));
        }
        s = chance(35) ? mutated(s) : s;
        back(slow.tape.length());
        feed(s.length() > 1990 ? s.substring(0, 1990) : s);
        same("judge(" + claim + ")", court.judge(claim), slow.judge(claim));
        same("place()", court.place(), slow.place());
        for (int what = -1; what <= 3; what++) {
            same("passed(" + what + ")", court.passed(what), slow.passed(what));
        }
    }

    // ---- all else

    private int around(int most) {
        return chance(3) ? Integer.MIN_VALUE : chance(3) ? Integer.MAX_VALUE : random.nextInt(most + 3) - 1;
    }

    /** Mostly a number that there is, so that calls seldom answer NONE. */
    private int likely(int count) {
        return count == 0 || chance(8) ? around(count) : random.nextInt(count);
    }

    private void askOne() {
        int c = likely(slow.text.roots.size());
        int p = likely(slow.text.points.size());
        int s = likely(slow.stocksInAll());
        int b = likely(1 << slow.text.bargains.size());
        int w = likely(3);
        int i = likely(chance(50) ? 6 : 40);
        boolean on = chance(60);
        String args = "(" + p + ", " + s + ", " + b + ")";
        switch (random.nextInt(30)) {
            case 0: same("price(" + p + ")", court.price(p), slow.price(p)); break;
            case 1: same("stock(" + w + ")", court.stock(w), slow.stock(w)); break;
            case 2: same("put(" + w + ", " + i + ")", n(court.put(w, i)), n(slow.put(w, i))); break;
            case 3: same("put", n(court.put(w, 1)), n(slow.put(w, 1))); break;
            case 4: same("oath(" + w + ", " + on + ")", n(court.oath(w, on)), n(slow.oath(w, on))); break;
            case 5: same("bargain(" + w + ", " + on + ")", n(court.bargain(w, on)), n(slow.bargain(w, on))); break;
            case 6: same("pointOf(" + c + ")", court.pointOf(c), slow.pointOf(c)); break;
            case 7: same("point(" + p + ", " + w + ")", court.point(p, w), slow.point(p, w)); break;
            case 8:
            case 9: same("depth" + args, court.depth(p, s, b), slow.depth(p, s, b)); break;
            case 10: same("can(" + c + ")", court.can(c), slow.can(c)); break;
            case 11: same("stocks(" + c + ")", court.stocks(c), slow.stocks(c)); break;
            case 12: same("steps(" + c + ")", court.steps(c), slow.steps(c)); break;
            case 13:
            case 14:
                for (int what = -1; what <= 6; what++) {
                    same("step(" + c + ", " + i + ", " + what + ")", court.step(c, i, what), slow.step(c, i, what));
                }
                break;
            case 15: same("moves" + args, court.moves(p, s, b), slow.moves(p, s, b)); break;
            case 16:
                for (int what = -1; what <= 3; what++) {
                    same("move" + args + i + ", " + what, court.move(p, s, b, i, what), slow.move(p, s, b, i, what));
                }
                break;
            case 17: same("lack(" + c + ", " + w + ")", court.lack(c, w), slow.lack(c, w)); break;
            case 18: same("spare(" + c + ", " + w + ")", court.spare(c, w), slow.spare(c, w)); break;
            case 19: same("together(" + w + ")", court.together(w), slow.together(w)); break;
            case 20: same("part(" + c + ", " + w + ")", court.part(c, w), slow.part(c, w)); break;
            case 21: same("needed(" + c + ", " + w + ")", court.needed(c, w), slow.needed(c, w)); break;
            case 22: same("sit(" + c + ")", n(court.sit(c)), n(slow.sit(c))); break;
            case 23: same("now(" + i + ")", court.now(i), slow.now(i)); break;
            case 24: goOn(); break;
            case 25: same("lots(" + c + ", " + s + ")", court.lots(c, s), slow.lots(c, s)); break;
            case 26: same("hold(" + w + ")", n(court.hold(w)), n(slow.hold(w))); break;
            case 27: same("restore(" + w + ")", n(court.restore(w)), n(slow.restore(w))); break;
            case 28: same("count(" + i + ")", court.count(i), slow.count(i)); break;
            default: judgeOne();
        }
    }

    private void goOn() {
        int times = upTo(6);
        for (int i = 0; i < times; i++) {
            int answer = likely(2);
            same("now(0)", court.now(0), slow.now(0));
            same("go(" + answer + ")", court.go(answer), slow.go(answer));
            same("count(10)", court.count(10), slow.count(10));
        }
    }

    private void run() {
        if (chance(90)) {
            tellText();
        }
        while (calls < 390) {
            if (chance(slow.text.roots.isEmpty() ? 10 : 2)) {
                tellText();
            } else if (chance(10)) {
                judgeOne();
            } else {
                askOne();
            }
        }
    }

    public static void main(String[] args) {
        long from = args.length > 0 ? Long.parseLong(args[0]) : 1;
        long runs = args.length > 1 ? Long.parseLong(args[1]) : 150;
        for (long seed = from; seed < from + runs && wrong < 3; seed++) {
            try {
                new ModelTest(seed).run();
            } catch (IllegalStateException e) {
                System.out.println("in the run of seed " + seed);
            }
        }
        System.out.println("ModelTest: " + asked + " answers, " + wrong + " not as due");
        if (wrong != 0) {
            System.exit(1);
        }
    }
}
