import java.util.ArrayList;
import java.util.HashMap;
import java.util.List;
import java.util.Map;

/**
 * The document once more, written apart from the class under test and in the plainest way: all
 * places are gone through round by round, all parts are tried one by one. Only for tests.
 */
final class SlowCourt {
    record Token(String text, int place, boolean good) { }

    record Place(int point, int stock, int set) { }

    record Move(int kind, int splitStock, int splitSet, List<Place> leads) { }

    record Node(Place place, Move move, List<Node> below) { }

    static final class Fault extends RuntimeException {
        private static final long serialVersionUID = 1L;
        final int number;
        final int place;

        Fault(int number, int place) {
            this.number = number;
            this.place = place;
        }
    }

    static final class Deal {
        int[] takes;
        List<int[]> gives = new ArrayList<>();
    }

    static final class Point {
        int kind;
        int first = -1;
        int second = -1;
        int[] side;
    }

    static final class Text {
        final List<String> grounds = new ArrayList<>();
        final List<Integer> prices = new ArrayList<>();
        final List<Integer> amounts = new ArrayList<>();
        final List<String> oathNames = new ArrayList<>();
        final List<Deal> oaths = new ArrayList<>();
        final List<String> bargainNames = new ArrayList<>();
        final List<Deal> bargains = new ArrayList<>();
        final List<String> claimNames = new ArrayList<>();
        final List<Integer> worths = new ArrayList<>();
        final List<Integer> roots = new ArrayList<>();
        final List<Point> points = new ArrayList<>();

        boolean told(String name) {
            return grounds.contains(name) || oathNames.contains(name) || bargainNames.contains(name)
                    || claimNames.contains(name);
        }
    }

    static final List<String> RESERVED = List.of("ground", "oath", "bargain", "claim", "gives", "or", "any",
            "nothing", "rest", "ever");

    final StringBuilder tape = new StringBuilder();
    Text text = new Text();
    int faultPlace = -1;
    int stock;
    int oaths;
    int bargains;
    int[][] slots = new int[3][];
    int[] passed;
    final List<Place> sitting = new ArrayList<>();
    int sittingOaths;
    final Map<Integer, Map<Place, Integer>> depthsByOaths = new HashMap<>();

    // ---- TOKENS

    static List<Token> tokens(String s) {
        List<Token> found = new ArrayList<>();
        int i = 0;
        while (true) {
            while (i < s.length() && "\t\n\r ".indexOf(s.charAt(i)) >= 0) {
                i++;
            }
            if (i >= s.length()) {
                found.add(new Token("", s.length(), false));
                return found;
            }
            int j = i;
            while (j < s.length() && s.charAt(j) >= 'a' && s.charAt(j) <= 'z') {
                j++;
            }
            boolean good = j > i && j - i <= 8;
            if (j == i) {
                while (j < s.length() && s.charAt(j) >= '0' && s.charAt(j) <= '9') {
                    j++;
                }
                good = j > i && j - i <= 4;
            }
            if (j == i) {
                j = i + 1;
                good = ";=+*()[]".indexOf(s.charAt(i)) >= 0;
            }
            found.add(new Token(s.substring(i, j), i, good));
            if (!good) {
                return found;
            }
            i = j;
        }
    }

    static boolean isName(Token t) {
        return t.good() && Character.isLetter(t.text().charAt(0)) && !RESERVED.contains(t.text());
    }

    static boolean isInt(Token t) {
        return t.good() && Character.isDigit(t.text().charAt(0));
    }

    // ---- texts: parsed as far as they go, with all FAULTS gathered and the first one told

    static final class Parser {
        final List<Token> tokens;
        final Text out = new Text();
        final List<int[]> hard = new ArrayList<>();
        final List<int[]> soft = new ArrayList<>();
        int at;

        Parser(String s) {
            tokens = tokens(s);
            if (tokens.size() > 401 && tokens.get(400).good()) {
                hard.add(new int[] {tokens.get(400).place(), 2});
            }
        }

        Token peek() {
            return tokens.get(at);
        }

        boolean ahead(String word) {
            return peek().good() && peek().text().equals(word);
        }

        int last() {
            return tokens.get(at - 1).place();
        }

        Fault syntax() {
            return new Fault(1, peek().place());
        }

        void word(String word) {
            if (!ahead(word)) {
                throw syntax();
            }
            at++;
        }

        String name() {
            if (!isName(peek())) {
                throw syntax();
            }
            return tokens.get(at++).text();
        }

        int number() {
            if (!isInt(peek())) {
                throw syntax();
            }
            return Integer.parseInt(tokens.get(at++).text());
        }

        void room(int have, int most) {
            if (have >= most) {
                hard.add(new int[] {last(), 2});
            }
        }

        void wrong(boolean is, int number) {
            if (is) {
                soft.add(new int[] {last(), number});
            }
        }

        String newName() {
            String name = name();
            wrong(out.told(name), 3);
            return name;
        }

        int[] side() {
            int[] side = new int[4];
            if (ahead("nothing")) {
                at++;
                return side;
            }
            while (true) {
                int ground = out.grounds.indexOf(name());
                wrong(ground < 0, 4);
                if (ground >= 0 && ground < 4) {
                    side[ground]++;
                    wrong(side[ground] > 3, 5);
                }
                if (!ahead("+")) {
                    return side;
                }
                at++;
            }
        }

        int add(int kind, int first, int second, int[] side) {
            Point p = new Point();
            p.kind = kind;
            p.first = first;
            p.second = second;
            p.side = side;
            out.points.add(p);
            if (out.points.size() > 24) {
                hard.add(new int[] {last(), 2});
            }
            return out.points.size() - 1;
        }

        int c(int nested) {
            int p = t(nested);
            while (ahead("or")) {
                at++;
                int q = t(nested);
                p = add(3, p, q, null);
            }
            return p;
        }

        int t(int nested) {
            int p = f(nested);
            while (ahead("any")) {
                at++;
                int q = f(nested);
                p = add(4, p, q, null);
            }
            return p;
        }

        int f(int nested) {
            int p = u(nested);
            while (ahead("*")) {
                at++;
                int q = u(nested);
                p = add(5, p, q, null);
            }
            return p;
        }

        int u(int nested) {
            if (ahead("nothing") || ahead("rest")) {
                int kind = ahead("rest") ? 2 : 1;
                at++;
                return add(kind, -1, -1, null);
            }
            if (ahead("ever") || ahead("[") || ahead("(")) {
                String opening = peek().text();
                at++;
                room(nested, 6);
                if (opening.equals("(")) {
                    int p = c(nested + 1);
                    word(")");
                    return p;
                }
                if (opening.equals("[")) {
                    int[] side = side();
                    word("]");
                    return add(7, u(nested + 1), -1, side);
                }
                return add(6, u(nested + 1), -1, null);
            }
            int ground = out.grounds.indexOf(name());
            wrong(ground < 0, 4);
            return add(0, ground, -1, null);
        }

        void tell() {
            if (ahead("ground")) {
                at++;
                room(out.grounds.size(), 4);
                String name = newName();
                int price = number();
                wrong(price < 1 || price > 99, 5);
                int amount = number();
                wrong(amount > 3, 5);
                out.grounds.add(name);
                out.prices.add(price);
                out.amounts.add(amount);
            } else if (ahead("oath") || ahead("bargain")) {
                boolean oath = ahead("oath");
                at++;
                room(oath ? out.oaths.size() : out.bargains.size(), 3);
                String name = newName();
                (oath ? out.oathNames : out.bargainNames).add(name);
                Deal deal = new Deal();
                deal.takes = side();
                word("gives");
                deal.gives.add(side());
                if (!oath && ahead("or")) {
                    at++;
                    deal.gives.add(side());
                }
                (oath ? out.oaths : out.bargains).add(deal);
            } else if (ahead("claim")) {
                at++;
                room(out.roots.size(), 6);
                out.claimNames.add(newName());
                int worth = number();
                wrong(worth > 99, 5);
                word("=");
                out.worths.add(worth);
                out.roots.add(c(0));
            } else {
                throw syntax();
            }
            word(";");
        }

        int[] parse() {
            try {
                while (peek().good() || peek().place() < end()) {
                    tell();
                }
            } catch (Fault f) {
                hard.add(new int[] {f.place, f.number});
            }
            List<int[]> all = hard.isEmpty() ? soft : hard;
            int[] first = null;
            for (int[] x : all) {
                if (first == null || x[0] < first[0] || x[0] == first[0] && x[1] < first[1]) {
                    first = x;
                }
            }
            return first;
        }

        int end() {
            Token t = tokens.get(tokens.size() - 1);
            return t.text().isEmpty() ? t.place() : Integer.MAX_VALUE;
        }
    }

    int read() {
        Parser parser = new Parser(tape.toString());
        tape.setLength(0);
        int[] fault = parser.parse();
        if (fault != null) {
            faultPlace = fault[0];
            return fault[1];
        }
        faultPlace = -1;
        text = parser.out;
        depthsByOaths.clear();
        stock = 0;
        for (int g = 0; g < text.grounds.size(); g++) {
            stock += text.amounts.get(g) * power(g);
        }
        oaths = (1 << text.oaths.size()) - 1;
        bargains = (1 << text.bargains.size()) - 1;
        sitting.clear();
        slots = new int[3][];
        passed = null;
        return 0;
    }

    // ---- STOCKS

    static int power(int ground) {
        int p = 1;
        for (int i = 0; i < ground; i++) {
            p *= 4;
        }
        return p;
    }

    static int[] digits(int stock) {
        int[] d = new int[4];
        for (int g = 0; g < 4; g++) {
            d[g] = stock % 4;
            stock /= 4;
        }
        return d;
    }

    static int number(int[] digits) {
        int n = 0;
        for (int g = 3; g >= 0; g--) {
            n = n * 4 + digits[g];
        }
        return n;
    }

    int stocksInAll() {
        return power(text.grounds.size());
    }

    /** -1: it can't be. */
    static int changed(int stock, int[] out, int[] in) {
        int[] d = digits(stock);
        for (int g = 0; g < 4; g++) {
            if (d[g] < out[g]) {
                return -1;
            }
            d[g] += in[g] - out[g];
            if (d[g] > 3) {
                return -1;
            }
        }
        return number(d);
    }

    static boolean within(int part, int all) {
        return changed(all, digits(part), new int[4]) >= 0;
    }

    // ---- MOVES, DEPTH, THE SHOWING

    List<Move> movesOf(Place at, int holding) {
        List<Move> moves = new ArrayList<>();
        Point p = text.points.get(at.point());
        switch (p.kind) {
            case 0 -> {
                if (at.stock() == power(p.first)) {
                    moves.add(new Move(0, -1, -1, List.of()));
                }
            }
            case 1 -> {
                if (at.stock() == 0) {
                    moves.add(new Move(1, -1, -1, List.of()));
                }
            }
            case 2 -> moves.add(new Move(2, -1, -1, List.of()));
            case 3 -> {
                moves.add(new Move(3, -1, -1, List.of(new Place(p.first, at.stock(), at.set()))));
                moves.add(new Move(4, -1, -1, List.of(new Place(p.second, at.stock(), at.set()))));
            }
            case 4 -> moves.add(new Move(5, -1, -1, List.of(new Place(p.first, at.stock(), at.set()),
                    new Place(p.second, at.stock(), at.set()))));
            case 5 -> {
                for (int s = 0; s <= at.stock(); s++) {
                    for (int b = 0; b <= at.set() && within(s, at.stock()); b++) {
                        if ((b | at.set()) == at.set()) {
                            moves.add(new Move(6, s, b, List.of(new Place(p.first, s, b),
                                    new Place(p.second, at.stock() - s, at.set() - b))));
                        }
                    }
                }
            }
            case 6 -> {
                if (at.stock() == 0) {
                    moves.add(new Move(7, -1, -1, List.of(new Place(p.first, 0, 0))));
                }
            }
            default -> {
                int more = changed(at.stock(), new int[4], p.side);
                if (more >= 0) {
                    moves.add(new Move(8, -1, -1, List.of(new Place(p.first, more, at.set()))));
                }
            }
        }
        for (int o = 0; o < text.oaths.size(); o++) {
            Deal deal = text.oaths.get(o);
            int next = changed(at.stock(), deal.takes, deal.gives.get(0));
            if ((holding & 1 << o) != 0 && next >= 0) {
                moves.add(new Move(10 + o, -1, -1, List.of(new Place(at.point(), next, at.set()))));
            }
        }
        for (int b = 0; b < text.bargains.size(); b++) {
            List<Place> cases = new ArrayList<>();
            boolean all = (at.set() & 1 << b) != 0;
            for (int[] gives : text.bargains.get(b).gives) {
                int next = changed(at.stock(), text.bargains.get(b).takes, gives);
                all &= next >= 0;
                cases.add(new Place(at.point(), next, at.set() & ~(1 << b)));
            }
            if (all) {
                moves.add(new Move(20 + b, -1, -1, cases));
            }
        }
        return moves;
    }

    Map<Place, Integer> depths(int holding) {
        Map<Place, Integer> known = depthsByOaths.get(holding);
        if (known != null) {
            return known;
        }
        Map<Place, List<Move>> open = new HashMap<>();
        for (int p = 0; p < text.points.size(); p++) {
            for (int s = 0; s < stocksInAll(); s++) {
                for (int b = 0; b < 1 << text.bargains.size(); b++) {
                    Place place = new Place(p, s, b);
                    open.put(place, movesOf(place, holding));
                }
            }
        }
        known = new HashMap<>();
        boolean more = true;
        for (int depth = 1; more; depth++) {
            Map<Place, Integer> found = new HashMap<>();
            for (Map.Entry<Place, List<Move>> entry : open.entrySet()) {
                for (Move move : entry.getValue()) {
                    if (known.keySet().containsAll(move.leads())) {
                        found.put(entry.getKey(), depth);
                    }
                }
            }
            known.putAll(found);
            open.keySet().removeAll(found.keySet());
            more = !found.isEmpty();
        }
        depthsByOaths.put(holding, known);
        return known;
    }

    int depthOf(Place place, int holding) {
        return depths(holding).getOrDefault(place, 0);
    }

    int depthBy(Move move, int holding) {
        int deepest = 0;
        for (Place lead : move.leads()) {
            int d = depthOf(lead, holding);
            if (d == 0) {
                return 0;
            }
            deepest = Math.max(deepest, d);
        }
        return deepest + 1;
    }

    Move best(Place place, int holding) {
        Move best = null;
        for (Move move : movesOf(place, holding)) {
            int d = depthBy(move, holding);
            if (d > 0 && (best == null || d < depthBy(best, holding))) {
                best = move;
            }
        }
        return best;
    }

    /** THE SHOWING as a tree; null: it can't be shown. */
    Node tree(Place place, int holding) {
        Move move = best(place, holding);
        if (move == null) {
            return null;
        }
        List<Node> below = new ArrayList<>();
        for (Place lead : move.leads()) {
            below.add(tree(lead, holding));
        }
        return new Node(place, move, below);
    }

    static void flatten(Node node, List<Node> into) {
        into.add(node);
        for (Node below : node.below()) {
            flatten(below, into);
        }
    }

    // ---- SHOWINGS told as texts

    final class Judge {
        final List<Token> tokens;
        int at;
        int steps;
        int idle;

        Judge(String s) {
            tokens = tokens(s);
        }

        Token take(boolean fits) {
            Token t = tokens.get(at);
            if (!fits) {
                throw new Fault(1, t.place());
            }
            if (at == 400) {
                throw new Fault(2, t.place());
            }
            at++;
            return t;
        }

        boolean ahead(String word) {
            return tokens.get(at).good() && tokens.get(at).text().equals(word);
        }

        Token name() {
            return take(isName(tokens.get(at)));
        }

        /** Its depth; rowOfOaths: the STOCKS ahead of this step by OATHS right above it. */
        int s(Place place, int level, List<Integer> rowOfOaths) {
            List<String> words = List.of("is", "none", "rest", "left", "right", "each", "split", "ever", "given",
                    "use");
            Token t = tokens.get(at);
            Token first = take(t.good() && words.contains(t.text()));
            int step = words.indexOf(first.text());
            if (level > 60) {
                throw new Fault(2, first.place());
            }
            Point p = text.points.get(place.point());
            int[] kinds = {0, 1, 2, 3, 3, 4, 5, 6, 7, p.kind};
            if (kinds[step] != p.kind) {
                throw new Fault(6, first.place());
            }
            steps++;
            if (step == 9) {
                return use(place, level, rowOfOaths, first);
            }
            idle += idleIn(rowOfOaths, place.stock());
            int stock = place.stock();
            int set = place.set();
            switch (step) {
                case 0:
                    check(stock == power(p.first), 7, first);
                    return 1;
                case 1:
                    check(stock == 0, 7, first);
                    return 1;
                case 2:
                    return 1;
                case 3:
                    return 1 + s(new Place(p.first, stock, set), level + 1, List.of());
                case 4:
                    return 1 + s(new Place(p.second, stock, set), level + 1, List.of());
                case 5: {
                    int one = s(new Place(p.first, stock, set), level + 1, List.of());
                    int two = s(new Place(p.second, stock, set), level + 1, List.of());
                    return 1 + Math.max(one, two);
                }
                case 6:
                    return split(place, p, level, first);
                case 7:
                    check(stock == 0, 7, first);
                    return 1 + s(new Place(p.first, 0, 0), level + 1, List.of());
                default: {
                    int more = changed(stock, new int[4], p.side);
                    check(more >= 0, 7, first);
                    return 1 + s(new Place(p.first, more, set), level + 1, List.of());
                }
            }
        }

        void check(boolean right, int number, Token where) {
            if (!right) {
                throw new Fault(number, where.place());
            }
        }

        int split(Place place, Point p, int level, Token first) {
            int[] side = new int[4];
            if (ahead("nothing")) {
                take(true);
            } else {
                boolean more = true;
                while (more) {
                    Token name = name();
                    int ground = text.grounds.indexOf(name.text());
                    check(ground >= 0, 4, name);
                    check(++side[ground] <= 3, 5, name);
                    more = ahead("+");
                    if (more) {
                        take(true);
                    }
                }
            }
            take(ahead("("));
            int some = 0;
            while (!ahead(")")) {
                Token name = name();
                int bargain = text.bargainNames.indexOf(name.text());
                check(bargain >= 0, 4, name);
                check((place.set() & ~some & 1 << bargain) != 0, 8, name);
                some |= 1 << bargain;
            }
            take(true);
            int rest = changed(place.stock(), side, new int[4]);
            check(rest >= 0, 7, first);
            int one = s(new Place(p.first, number(side), some), level + 1, List.of());
            int two = s(new Place(p.second, rest, place.set() & ~some), level + 1, List.of());
            return 1 + Math.max(one, two);
        }

        int use(Place place, int level, List<Integer> rowOfOaths, Token first) {
            Token name = name();
            int oath = text.oathNames.indexOf(name.text());
            int bargain = text.bargainNames.indexOf(name.text());
            check(oath >= 0 || bargain >= 0, 4, name);
            if (oath >= 0) {
                Deal deal = text.oaths.get(oath);
                int next = changed(place.stock(), deal.takes, deal.gives.get(0));
                check((oaths & 1 << oath) != 0 && next >= 0, 8, first);
                List<Integer> row = new ArrayList<>(rowOfOaths);
                row.add(place.stock());
                return 1 + s(new Place(place.point(), next, place.set()), level + 1, row);
            }
            idle += idleIn(rowOfOaths, place.stock());
            Deal deal = text.bargains.get(bargain);
            check((place.set() & 1 << bargain) != 0, 8, first);
            for (int[] gives : deal.gives) {
                check(changed(place.stock(), deal.takes, gives) >= 0, 8, first);
            }
            int deepest = 0;
            for (int[] gives : deal.gives) {
                int next = changed(place.stock(), deal.takes, gives);
                int below = s(new Place(place.point(), next, place.set() & ~(1 << bargain)), level + 1, List.of());
                deepest = Math.max(deepest, below);
            }
            return 1 + deepest;
        }

        int idleIn(List<Integer> above, int last) {
            List<Integer> row = new ArrayList<>(above);
            row.add(last);
            int found = 0;
            for (int i = 0; i < row.size(); i++) {
                int j = row.lastIndexOf(row.get(i));
                found += j - i;
                i = j;
            }
            return found;
        }
    }

    int judge(int claim) {
        if (claim < 0 || claim >= text.roots.size()) {
            return -1;
        }
        Judge judge = new Judge(tape.toString());
        tape.setLength(0);
        try {
            int depth = judge.s(new Place(text.roots.get(claim), stock, bargains), 1, List.of());
            Token end = judge.tokens.get(judge.at);
            if (end.good() || !end.text().isEmpty()) {
                throw new Fault(1, end.place());
            }
            passed = new int[] {judge.steps, depth, judge.idle};
            faultPlace = -1;
            return 0;
        } catch (Fault f) {
            faultPlace = f.place;
            return f.number;
        }
    }

    // ---- the rest of the face

    boolean isClaim(int claim) {
        return claim >= 0 && claim < text.roots.size();
    }

    boolean isPlace(int point, int s, int set) {
        return point >= 0 && point < text.points.size() && s >= 0 && s < stocksInAll() && set >= 0
                && set < 1 << text.bargains.size();
    }

    Place placeOf(int claim) {
        return new Place(text.roots.get(claim), stock, bargains);
    }

    boolean shown(int claim, int s, int set, int holding) {
        return depthOf(new Place(text.roots.get(claim), s, set), holding) > 0;
    }

    int feed(int a, int b, int c, int d, int e) {
        if (tape.length() > 1980) {
            return -1;
        }
        for (int word : new int[] {a, b, c, d, e}) {
            tape.append((char) (word >>> 24)).append((char) (word >> 16 & 255)).append((char) (word >> 8 & 255))
                    .append((char) (word & 255));
        }
        return tape.length();
    }

    int back(int n) {
        if (n < 0 || n > tape.length()) {
            return -1;
        }
        tape.setLength(tape.length() - n);
        return tape.length();
    }

    int place() {
        return faultPlace;
    }

    int passed(int what) {
        return what < 0 || what > 2 ? -1 : passed == null ? -2 : passed[what];
    }

    int price(int g) {
        return g < 0 || g >= text.grounds.size() ? -1 : text.prices.get(g);
    }

    int stock(int g) {
        return g < 0 || g >= text.grounds.size() ? -1 : digits(stock)[g];
    }

    boolean put(int g, int n) {
        if (g < 0 || g >= text.grounds.size() || n < 0 || n > 3) {
            return false;
        }
        int[] d = digits(stock);
        d[g] = n;
        stock = number(d);
        return true;
    }

    boolean oath(int o, boolean on) {
        if (o < 0 || o >= text.oaths.size()) {
            return false;
        }
        oaths = oaths & ~(1 << o) | (on ? 1 << o : 0);
        return true;
    }

    boolean bargain(int b, boolean on) {
        if (b < 0 || b >= text.bargains.size()) {
            return false;
        }
        bargains = bargains & ~(1 << b) | (on ? 1 << b : 0);
        return true;
    }

    int pointOf(int claim) {
        return isClaim(claim) ? text.roots.get(claim) : -1;
    }

    int point(int point, int what) {
        if (point < 0 || point >= text.points.size()) {
            return -1;
        }
        Point p = text.points.get(point);
        return what == 0 ? p.kind : what == 1 ? p.first : what != 2 ? -1 : p.kind == 7 ? number(p.side) : p.second;
    }

    int depth(int point, int s, int set) {
        return isPlace(point, s, set) ? depthOf(new Place(point, s, set), oaths) : -1;
    }

    int can(int claim) {
        if (!isClaim(claim)) {
            return -1;
        }
        int d = depthOf(placeOf(claim), oaths);
        return d == 0 ? -2 : d;
    }

    int stocks(int claim) {
        if (!isClaim(claim)) {
            return -1;
        }
        int n = 0;
        for (int s = 0; s < stocksInAll(); s++) {
            n += shown(claim, s, bargains, oaths) ? 1 : 0;
        }
        return n;
    }

    List<Node> showing(int claim) {
        Node tree = tree(placeOf(claim), oaths);
        List<Node> all = new ArrayList<>();
        if (tree != null) {
            flatten(tree, all);
        }
        return all;
    }

    int steps(int claim) {
        if (!isClaim(claim)) {
            return -1;
        }
        List<Node> all = showing(claim);
        return all.isEmpty() ? -2 : all.size();
    }

    static int tell(Place place, Move move, int what) {
        int[] all = {move.kind(), place.point(), place.stock(), place.set(), move.splitStock(), move.splitSet()};
        return all[what];
    }

    int step(int claim, int i, int what) {
        if (!isClaim(claim) || what < 0 || what > 5) {
            return -1;
        }
        List<Node> all = showing(claim);
        return i < 0 || i >= all.size() ? -1 : tell(all.get(i).place(), all.get(i).move(), what);
    }

    int moves(int point, int s, int set) {
        return isPlace(point, s, set) ? movesOf(new Place(point, s, set), oaths).size() : -1;
    }

    int move(int point, int s, int set, int i, int what) {
        if (!isPlace(point, s, set) || what < 0 || what > 2) {
            return -1;
        }
        List<Move> all = movesOf(new Place(point, s, set), oaths);
        if (i < 0 || i >= all.size()) {
            return -1;
        }
        Move move = all.get(i);
        if (what == 0) {
            return move.kind();
        }
        if (what == 1) {
            return depthBy(move, oaths);
        }
        for (Place lead : move.leads()) {
            if (depthOf(lead, oaths) == 0) {
                return 2048 * lead.point() + 8 * lead.stock() + lead.set();
            }
        }
        return -2;
    }

    int priceOf(int s) {
        int sum = 0;
        for (int g = 0; g < text.grounds.size(); g++) {
            sum += digits(s)[g] * text.prices.get(g);
        }
        return sum;
    }

    int lack(int claim, int what) {
        if (!isClaim(claim) || what < 0 || what > 1) {
            return -1;
        }
        int best = -2;
        for (int s = stocksInAll() - 1; s >= 0; s--) {
            int all = changed(stock, new int[4], digits(s));
            if (all >= 0 && shown(claim, all, bargains, oaths) && (best < 0 || priceOf(s) <= priceOf(best))) {
                best = s;
            }
        }
        return best < 0 ? -2 : what == 1 ? best : priceOf(best);
    }

    int spare(int claim, int what) {
        if (!isClaim(claim) || what < 0 || what > 1) {
            return -1;
        }
        int best = -2;
        for (int s = stocksInAll() - 1; s >= 0; s--) {
            int all = changed(stock, digits(s), new int[4]);
            if (all >= 0 && shown(claim, all, bargains, oaths) && (best < 0 || priceOf(s) >= priceOf(best))) {
                best = s;
            }
        }
        return best < 0 ? -2 : what == 1 ? best : priceOf(best);
    }

    /** The parts (STOCK, BARGAINS by turns) of a set of CLAIMS, the least ones; null: it can't be parted. */
    int[] partsOf(int claims, int claim, int s, int set) {
        if (claim == text.roots.size()) {
            return s == 0 ? new int[12] : null;
        }
        if ((claims & 1 << claim) == 0) {
            return partsOf(claims, claim + 1, s, set);
        }
        for (int mine = 0; mine <= s; mine++) {
            for (int b = 0; b <= set && within(mine, s); b++) {
                if ((b | set) == set && shown(claim, mine, b, oaths)) {
                    int[] rest = partsOf(claims, claim + 1, s - mine, set - b);
                    if (rest != null) {
                        rest[2 * claim] = mine;
                        rest[2 * claim + 1] = b;
                        return rest;
                    }
                }
            }
        }
        return null;
    }

    int worthOf(int claims) {
        int sum = 0;
        for (int c = 0; c < text.roots.size(); c++) {
            sum += (claims & 1 << c) != 0 ? text.worths.get(c) : 0;
        }
        return sum;
    }

    int bestSet() {
        int best = -1;
        for (int claims = 0; claims < 1 << text.roots.size(); claims++) {
            if ((best < 0 || worthOf(claims) > worthOf(best)) && partsOf(claims, 0, stock, bargains) != null) {
                best = claims;
            }
        }
        return best;
    }

    int together(int what) {
        if (what < 0 || what > 1) {
            return -1;
        }
        int best = bestSet();
        return best < 0 ? -2 : what == 1 ? best : worthOf(best);
    }

    int part(int claim, int what) {
        if (!isClaim(claim) || what < 0 || what > 1) {
            return -1;
        }
        int best = bestSet();
        return best < 0 || (best & 1 << claim) == 0 ? -2 : partsOf(best, 0, stock, bargains)[2 * claim + what];
    }

    int needed(int claim, int what) {
        if (!isClaim(claim) || what < 0 || what > 2) {
            return -1;
        }
        int[] best = null;
        for (int o = 0; o <= oaths; o++) {
            for (int b = 0; b <= bargains; b++) {
                int n = Integer.bitCount(o) + Integer.bitCount(b);
                if ((o | oaths) == oaths && (b | bargains) == bargains && (best == null || n < best[0])
                        && shown(claim, stock, b, o)) {
                    best = new int[] {n, o, b};
                }
            }
        }
        return best == null ? -2 : best[what];
    }

    boolean sit(int claim) {
        if (can(claim) < 0) {
            return false;
        }
        sitting.clear();
        sitting.add(placeOf(claim));
        sittingOaths = oaths;
        return true;
    }

    int now(int what) {
        if (what < 0 || what > 5) {
            return -1;
        }
        if (sitting.isEmpty()) {
            return -2;
        }
        Place top = sitting.get(sitting.size() - 1);
        return tell(top, best(top, sittingOaths), what);
    }

    /** False: the answer is none. */
    boolean goOn(List<Place> open, int holding, int answer) {
        Place top = open.get(open.size() - 1);
        Move move = best(top, holding);
        boolean asks = move.kind() >= 20 && move.leads().size() == 2;
        if (asks && answer != 0 && answer != 1) {
            return false;
        }
        open.remove(open.size() - 1);
        if (asks) {
            open.add(move.leads().get(answer));
        } else {
            for (int i = move.leads().size() - 1; i >= 0; i--) {
                open.add(move.leads().get(i));
            }
        }
        return true;
    }

    int go(int answer) {
        return sitting.isEmpty() || !goOn(sitting, sittingOaths, answer) ? -1 : sitting.size();
    }

    static int lot(int n, int seed, int which) {
        int h = seed;
        for (int it : new int[] {19, which}) {
            h = (h ^ it) * 1103515245 + 12345;
            h = h ^ h >>> 15;
        }
        return (h >>> 1) % n;
    }

    int lots(int claim, int seed) {
        if (can(claim) < 0) {
            return can(claim);
        }
        List<Place> open = new ArrayList<>();
        open.add(placeOf(claim));
        int steps = 0;
        int k = 0;
        while (!open.isEmpty()) {
            Move move = best(open.get(open.size() - 1), oaths);
            boolean asks = move.kind() >= 20 && move.leads().size() == 2;
            goOn(open, oaths, asks ? lot(2, seed, k++) : 0);
            steps++;
        }
        return steps;
    }

    boolean hold(int slot) {
        if (slot < 0 || slot > 2) {
            return false;
        }
        slots[slot] = new int[] {stock, oaths, bargains};
        return true;
    }

    boolean restore(int slot) {
        if (slot < 0 || slot > 2 || slots[slot] == null) {
            return false;
        }
        stock = slots[slot][0];
        oaths = slots[slot][1];
        bargains = slots[slot][2];
        return true;
    }

    int count(int what) {
        int held = 0;
        for (int[] slot : slots) {
            held += slot == null ? 0 : 1;
        }
        int[] all = {text.grounds.size(), text.oaths.size(), text.bargains.size(), text.roots.size(),
            text.points.size(), stock, oaths, bargains, tape.length(), held, sitting.size()};
        if (what >= 20 && what - 20 < text.worths.size()) {
            return text.worths.get(what - 20);
        }
        return what >= 0 && what <= 10 ? all[what] : -1;
    }
}
