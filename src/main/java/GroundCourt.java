import java.util.Arrays;

/**
 * A court in which a ground is spent with the point for which it is brought. The document
 * ../shared/DOC.md says what each call promises; its words in capitals are used here as they stand there.
 */
public final class GroundCourt {

    public static final int NONE = -1;

    private static final int CANNOT = -2;

    private static final int TAPE_BYTES = 2000;
    private static final int MOST_TOKENS = 400;
    private static final int MOST_LETTERS = 8;
    private static final int MOST_DIGITS = 4;
    private static final int MOST_GROUNDS = 4;
    private static final int MOST_OATHS = 3;
    private static final int MOST_BARGAINS = 3;
    private static final int MOST_DEALS = MOST_OATHS + MOST_BARGAINS;
    private static final int MOST_CLAIMS = 6;
    private static final int MOST_POINTS = 24;
    private static final int MOST_NAMES = MOST_GROUNDS + MOST_DEALS + MOST_CLAIMS;
    private static final int MOST_NESTED = 6;
    private static final int MOST_LEVELS = 60;
    private static final int MOST_OF_GROUND = 3;
    private static final int STOCKS = 256;
    private static final int SETS = 8;
    private static final int PLACES_OF_POINT = STOCKS * SETS;
    private static final int SLOTS = 3;

    /** Far above what THE SHOWING of any place can have: 24 POINTS, 8 ways of bargains, 256 STOCKS. */
    private static final int MOST_STEPS = 1000000;

    private static final int FAULT_SYNTAX = 1;
    private static final int FAULT_ROOM = 2;
    private static final int FAULT_TWICE = 3;
    private static final int FAULT_NAME = 4;
    private static final int FAULT_WRONG = 5;
    private static final int FAULT_KIND = 6;
    private static final int FAULT_STOCK = 7;
    private static final int FAULT_DEAL = 8;

    /** Kinds of TOKENS; a SIGN's kind is its byte, a word's is WORD and its place among the words. */
    private static final int END = 0;
    private static final int NO_TOKEN = 1;
    private static final int NAME = 2;
    private static final int INT = 3;
    private static final int WORD = 300;
    private static final int WORD_GROUND = WORD;
    private static final int WORD_OATH = WORD + 1;
    private static final int WORD_BARGAIN = WORD + 2;
    private static final int WORD_CLAIM = WORD + 3;
    private static final int WORD_GIVES = WORD + 4;
    private static final int WORD_OR = WORD + 5;
    private static final int WORD_ANY = WORD + 6;
    private static final int WORD_NOTHING = WORD + 7;
    private static final int WORD_REST = WORD + 8;
    private static final int WORD_EVER = WORD + 9;
    private static final int WORDS = 10;

    private static final int POINT_NAME = 0;
    private static final int POINT_NOTHING = 1;
    private static final int POINT_REST = 2;
    private static final int POINT_OR = 3;
    private static final int POINT_ANY = 4;
    private static final int POINT_BOTH = 5;
    private static final int POINT_EVER = 6;
    private static final int POINT_GIVEN = 7;

    private static final int STEP_IS = 0;
    private static final int STEP_NONE = 1;
    private static final int STEP_REST = 2;
    private static final int STEP_LEFT = 3;
    private static final int STEP_RIGHT = 4;
    private static final int STEP_EACH = 5;
    private static final int STEP_SPLIT = 6;
    private static final int STEP_EVER = 7;
    private static final int STEP_GIVEN = 8;
    private static final int STEP_USE = 9;
    private static final int STEP_OATH = 10;
    private static final int STEP_BARGAIN = 20;
    private static final int STEP_WORDS = 10;

    /** Roles of NAMES: a role and the number of what bears the NAME. */
    private static final int ROLE = 8;
    private static final int ROLE_GROUND = 0;
    private static final int ROLE_OATH = ROLE;
    private static final int ROLE_BARGAIN = 2 * ROLE;
    private static final int ROLE_CLAIM = 3 * ROLE;

    private final Tape tape;
    private final Tokens tokens;
    private final LawReader lawReader;
    private final ShowingReader showingReader;
    private final Depths depths;
    private final Moves moves;
    private final Walk walk;
    private final Walk sitting;
    private final Parting parting;
    private final Hand hand;
    private final Hand[] slots;
    private Law draft;
    private int faultPlace;

    public GroundCourt() {
        tape = new Tape();
        tokens = new Tokens(tape);
        lawReader = new LawReader(tokens);
        depths = new Depths();
        showingReader = new ShowingReader(tokens, depths);
        moves = new Moves(depths);
        walk = new Walk(moves);
        sitting = new Walk(moves);
        parting = new Parting(depths);
        hand = new Hand();
        slots = new Hand[SLOTS];
        for (int slot = 0; slot < SLOTS; slot++) {
            slots[slot] = new Hand();
        }
        draft = new Law();
        faultPlace = NONE;
    }

    public int feed(int a, int b, int c, int d, int e) {
        if (tape.length + 20 > TAPE_BYTES) {
            return NONE;
        }
        tape.add(a);
        tape.add(b);
        tape.add(c);
        tape.add(d);
        tape.add(e);
        return tape.length;
    }

    public int back(int n) {
        if (n < 0 || n > tape.length) {
            return NONE;
        }
        tape.length -= n;
        return tape.length;
    }

    public int read() {
        tokens.scan(true);
        lawReader.readInto(draft);
        tape.length = 0;
        faultPlace = tokens.verdictPlace();
        int fault = tokens.verdict();
        if (fault == 0) {
            adoptDraft();
        }
        return fault;
    }

    private void adoptDraft() {
        Law before = depths.law;
        depths.adopt(draft);
        draft = before;
        Law law = depths.law;
        hand.stock = law.told;
        hand.oaths = (1 << law.oaths) - 1;
        hand.bargains = (1 << law.bargains) - 1;
        for (int slot = 0; slot < SLOTS; slot++) {
            slots[slot].held = false;
        }
        sitting.size = 0;
        showingReader.passed = false;
        parting.settled.held = false;
    }

    public int judge(int claim) {
        int root = rootOf(claim);
        if (root == NONE) {
            return NONE;
        }
        tokens.scan(false);
        showingReader.check(hand, root);
        tape.length = 0;
        faultPlace = tokens.verdictPlace();
        return tokens.verdict();
    }

    public int place() {
        return faultPlace;
    }

    public int passed(int what) {
        if (what < 0 || what > 2) {
            return NONE;
        }
        if (!showingReader.passed) {
            return CANNOT;
        }
        return what == 0 ? showingReader.passedSteps
                : what == 1 ? showingReader.passedDepth : showingReader.passedIdle;
    }

    public int price(int ground) {
        return isGround(ground) ? depths.law.prices[ground] : NONE;
    }

    public int stock(int ground) {
        return isGround(ground) ? countOf(hand.stock, ground) : NONE;
    }

    public boolean put(int ground, int n) {
        if (!isGround(ground) || n < 0 || n > MOST_OF_GROUND) {
            return false;
        }
        hand.stock += (n - countOf(hand.stock, ground)) << (2 * ground);
        return true;
    }

    public boolean oath(int oath, boolean on) {
        if (oath < 0 || oath >= depths.law.oaths) {
            return false;
        }
        hand.oaths = withBit(hand.oaths, oath, on);
        return true;
    }

    public boolean bargain(int bargain, boolean on) {
        if (bargain < 0 || bargain >= depths.law.bargains) {
            return false;
        }
        hand.bargains = withBit(hand.bargains, bargain, on);
        return true;
    }

    public int pointOf(int claim) {
        return rootOf(claim);
    }

    public int point(int point, int what) {
        Law law = depths.law;
        if (point < 0 || point >= law.points) {
            return NONE;
        }
        switch (what) {
            case 0: return law.kinds[point];
            case 1: return law.firsts[point];
            case 2: return law.seconds[point];
            default: return NONE;
        }
    }

    public int depth(int point, int stock, int bargains) {
        if (!depths.law.hasPlace(point, stock, bargains)) {
            return NONE;
        }
        depths.prepare(hand.oaths, point, bargains);
        return depths.least(hand.oaths, point, stock, bargains);
    }

    public int can(int claim) {
        int root = rootOf(claim);
        return root == NONE ? NONE : depthWithHand(root);
    }

    public int stocks(int claim) {
        int root = rootOf(claim);
        if (root == NONE) {
            return NONE;
        }
        depths.prepare(hand.oaths, root, hand.bargains);
        int shown = 0;
        for (int stock = 0; stock < depths.law.stockCount(); stock++) {
            if (depths.least(hand.oaths, root, stock, hand.bargains) > 0) {
                shown++;
            }
        }
        return shown;
    }

    public int steps(int claim) {
        int root = rootOf(claim);
        if (root == NONE) {
            return NONE;
        }
        if (depthWithHand(root) == CANNOT) {
            return CANNOT;
        }
        walk.begin(hand, root);
        return walk.passOn(MOST_STEPS);
    }

    public int step(int claim, int i, int what) {
        int root = rootOf(claim);
        if (root == NONE || i < 0 || !isStepPart(what) || depthWithHand(root) == CANNOT) {
            return NONE;
        }
        walk.begin(hand, root);
        if (walk.passOn(i) < i || !walk.choose()) {
            return NONE;
        }
        return moves.tell(what);
    }

    public int moves(int point, int stock, int bargains) {
        if (!depths.law.hasPlace(point, stock, bargains)) {
            return NONE;
        }
        moves.lookAt(hand.oaths, point, stock, bargains);
        return moves.total();
    }

    public int move(int point, int stock, int bargains, int i, int what) {
        if (!depths.law.hasPlace(point, stock, bargains) || what < 0 || what > 2) {
            return NONE;
        }
        depths.prepare(hand.oaths, point, bargains);
        moves.lookAt(hand.oaths, point, stock, bargains);
        if (!moves.pick(i)) {
            return NONE;
        }
        return what == 0 ? moves.kind : what == 1 ? moves.depthByIt() : moves.firstUnshown();
    }

    public int lack(int claim, int what) {
        int root = rootOf(claim);
        if (root == NONE || what < 0 || what > 1) {
            return NONE;
        }
        depths.prepare(hand.oaths, root, hand.bargains);
        int least = CANNOT;
        int put = CANNOT;
        for (int more = 0; more < depths.law.stockCount(); more++) {
            if (fits(hand.stock, more) && isShown(root, hand.stock + more)) {
                int price = priceOf(more);
                if (least == CANNOT || price < least) {
                    least = price;
                    put = more;
                }
            }
        }
        return what == 0 ? least : put;
    }

    public int spare(int claim, int what) {
        int root = rootOf(claim);
        if (root == NONE || what < 0 || what > 1) {
            return NONE;
        }
        depths.prepare(hand.oaths, root, hand.bargains);
        int most = CANNOT;
        int taken = CANNOT;
        for (int less = 0; less < depths.law.stockCount(); less++) {
            if (isWithin(less, hand.stock) && isShown(root, hand.stock - less)) {
                int price = priceOf(less);
                if (price > most) {
                    most = price;
                    taken = less;
                }
            }
        }
        return what == 0 ? most : taken;
    }

    public int together(int what) {
        if (what < 0 || what > 1) {
            return NONE;
        }
        parting.settle(hand);
        if (!parting.found) {
            return CANNOT;
        }
        return what == 0 ? parting.worth : parting.set;
    }

    public int part(int claim, int what) {
        if (rootOf(claim) == NONE || what < 0 || what > 1) {
            return NONE;
        }
        parting.settle(hand);
        if (!parting.found || !hasBit(parting.set, claim)) {
            return CANNOT;
        }
        return what == 0 ? parting.stocks[claim] : parting.bargains[claim];
    }

    public int needed(int claim, int what) {
        int root = rootOf(claim);
        if (root == NONE || what < 0 || what > 2) {
            return NONE;
        }
        if (depthWithHand(root) == CANNOT) {
            return CANNOT;
        }
        int least = leastNeeds(root);
        return what == 0 ? least >> 6 : what == 1 ? least >> 3 & 7 : least & 7;
    }

    public boolean sit(int claim) {
        int root = rootOf(claim);
        if (root == NONE || depthWithHand(root) == CANNOT) {
            return false;
        }
        sitting.begin(hand, root);
        return true;
    }

    public int now(int what) {
        if (!isStepPart(what)) {
            return NONE;
        }
        return sitting.choose() ? moves.tell(what) : CANNOT;
    }

    public int go(int answer) {
        if (!sitting.choose()) {
            return NONE;
        }
        if (moves.asksAnswer() && answer != 0 && answer != 1) {
            return NONE;
        }
        sitting.follow(answer);
        return sitting.size;
    }

    public int lots(int claim, int seed) {
        int root = rootOf(claim);
        if (root == NONE) {
            return NONE;
        }
        if (depthWithHand(root) == CANNOT) {
            return CANNOT;
        }
        walk.begin(hand, root);
        int done = 0;
        int asked = 0;
        for (; done < MOST_STEPS && walk.choose(); done++) {
            int answer = 0;
            if (moves.asksAnswer()) {
                answer = lot(2, seed, asked);
                asked++;
            }
            walk.follow(answer);
        }
        return done;
    }

    public boolean hold(int slot) {
        if (slot < 0 || slot >= SLOTS) {
            return false;
        }
        slots[slot].copy(hand);
        slots[slot].held = true;
        return true;
    }

    public boolean restore(int slot) {
        if (slot < 0 || slot >= SLOTS || !slots[slot].held) {
            return false;
        }
        hand.copy(slots[slot]);
        return true;
    }

    public int count(int what) {
        Law law = depths.law;
        if (what >= 20 && what < 20 + law.claims) {
            return law.worths[what - 20];
        }
        switch (what) {
            case 0: return law.grounds;
            case 1: return law.oaths;
            case 2: return law.bargains;
            case 3: return law.claims;
            case 4: return law.points;
            case 5: return hand.stock;
            case 6: return hand.oaths;
            case 7: return hand.bargains;
            case 8: return tape.length;
            case 9: return heldSlots();
            case 10: return sitting.size;
            default: return NONE;
        }
    }

    private int heldSlots() {
        int held = 0;
        for (int slot = 0; slot < SLOTS; slot++) {
            if (slots[slot].held) {
                held++;
            }
        }
        return held;
    }

    private boolean isGround(int ground) {
        return ground >= 0 && ground < depths.law.grounds;
    }

    private int rootOf(int claim) {
        Law law = depths.law;
        return claim >= 0 && claim < law.claims ? law.roots[claim] : NONE;
    }

    private static boolean isStepPart(int what) {
        return what >= 0 && what <= 5;
    }

    private int depthWithHand(int root) {
        depths.prepare(hand.oaths, root, hand.bargains);
        int depth = depths.least(hand.oaths, root, hand.stock, hand.bargains);
        return depth == 0 ? CANNOT : depth;
    }

    private boolean isShown(int root, int stock) {
        return depths.least(hand.oaths, root, stock, hand.bargains) > 0;
    }

    private int priceOf(int number) {
        Law law = depths.law;
        int price = 0;
        for (int ground = 0; ground < law.grounds; ground++) {
            price += law.prices[ground] * countOf(number, ground);
        }
        return price;
    }

    /**
     * How many, the OATHS, the BARGAINS in one number (64, 8, 1 of each): in this order the least of
     * these numbers is what is NEEDED.
     */
    private int leastNeeds(int root) {
        int least = CANNOT;
        for (int oaths = 0; oaths <= hand.oaths; oaths++) {
            int byOaths = 64 * Integer.bitCount(oaths) + 8 * oaths;
            if (!isSubset(oaths, hand.oaths) || least != CANNOT && least <= byOaths) {
                continue;
            }
            depths.prepare(oaths, root, hand.bargains);
            for (int set = 0; set <= hand.bargains; set++) {
                int all = byOaths + 64 * Integer.bitCount(set) + set;
                boolean lesser = isSubset(set, hand.bargains) && (least == CANNOT || all < least);
                if (lesser && depths.least(oaths, root, hand.stock, set) > 0) {
                    least = all;
                }
            }
        }
        return least;
    }

    private static int lot(int n, int seed, int which) {
        int h = lotRound(lotRound(seed, 19), which);
        return n > 0 ? (h >>> 1) % n : 0;
    }

    private static int lotRound(int h, int with) {
        int mixed = (h ^ with) * 1103515245 + 12345;
        return mixed ^ (mixed >>> 15);
    }

    private static int countOf(int stock, int ground) {
        return stock >> (2 * ground) & 3;
    }

    private static boolean hasBit(int set, int bit) {
        return (set >> bit & 1) != 0;
    }

    private static int withBit(int set, int bit, boolean on) {
        return on ? set | 1 << bit : set & ~(1 << bit);
    }

    private static boolean isSubset(int some, int all) {
        return (some & ~all) == 0;
    }

    /**
     * Whether two STOCKS together have no more than 3 of any GROUND: when the numbers are added, no
     * carry leaves the two bits of a GROUND.
     */
    private static boolean fits(int one, int other) {
        int carries = (one & other) | ((one | other) & ~(one + other));
        return (carries & 0xAA) == 0;
    }

    /** Whether a STOCK has as many of each GROUND: some and (3 of each less all) fit just then. */
    private static boolean isWithin(int some, int all) {
        return fits(some, STOCKS - 1 - all);
    }

    /**
     * The next STOCK behind one that has at least the floor of each GROUND: adding one empties the
     * lowest GROUNDS that were full; those begin again at the floor.
     */
    private static int nextAbove(int stock, int floor) {
        int next = stock + 1;
        int lowBit = next & -next;
        int lowOfGround = (lowBit & 0x55555555) != 0 ? lowBit : lowBit >> 1;
        return next | floor & (lowOfGround - 1);
    }

    /** The STOCK when one SIDE is taken out and another comes in; NONE if that can't be. */
    private static int exchange(int stock, int takes, int gives) {
        if (!isWithin(takes, stock) || !fits(stock - takes, gives)) {
            return NONE;
        }
        return stock - takes + gives;
    }

    /** STOCK, OATHS that hold, BARGAINS at hand: what there is, or what a SLOT holds. */
    private static final class Hand {
        int stock;
        int oaths;
        int bargains;
        boolean held;

        void copy(Hand other) {
            stock = other.stock;
            oaths = other.oaths;
            bargains = other.bargains;
        }

        boolean isAlike(Hand other) {
            return stock == other.stock && oaths == other.oaths && bargains == other.bargains;
        }
    }

    private static final class Tape {
        final byte[] bytes = new byte[TAPE_BYTES];
        int length;

        void add(int four) {
            for (int shift = 24; shift >= 0 && length < TAPE_BYTES; shift -= 8) {
                bytes[length] = (byte) (four >> shift);
                length++;
            }
        }

        int byteAt(int place) {
            return place >= 0 && place < length && place < TAPE_BYTES ? bytes[place] & 255 : NONE;
        }
    }

    /**
     * The TOKENS of the tape, all found ahead of reading (so that reading a TOKEN goes through few
     * calls), and the FAULT that was found when they are taken one by one.
     */
    private static final class Tokens {
        final Tape tape;
        /** Words as numbers: those that are no NAMES, then those of steps by their numbers. */
        final long[] words;
        final int[] kinds = new int[MOST_TOKENS + 1];
        final int[] starts = new int[MOST_TOKENS + 1];
        final long[] names = new long[MOST_TOKENS + 1];
        final int[] numbers = new int[MOST_TOKENS + 1];
        int next;
        int at;
        int lastPlace;
        long lastName;
        int lastNumber;
        /** A text tells FAULTS 3 to 5 only if it has none of 1 and 2: reading goes on then. */
        boolean patient;
        int fault;
        int place;
        int laterFault;
        int laterPlace;

        Tokens(Tape tape) {
            this.tape = tape;
            words = new long[] {
                wordNumber("ground"), wordNumber("oath"), wordNumber("bargain"), wordNumber("claim"),
                wordNumber("gives"), wordNumber("or"), wordNumber("any"), wordNumber("nothing"),
                wordNumber("rest"), wordNumber("ever"),
                wordNumber("is"), wordNumber("none"), wordNumber("rest"), wordNumber("left"),
                wordNumber("right"), wordNumber("each"), wordNumber("split"), wordNumber("ever"),
                wordNumber("given"), wordNumber("use")
            };
        }

        private static long wordNumber(String word) {
            long number = 0;
            for (int i = 0; i < word.length(); i++) {
                number = withLetter(number, word.charAt(i));
            }
            return number;
        }

        private static long withLetter(long number, int letter) {
            return number * 32 + (letter - 'a' + 1);
        }

        void scan(boolean isPatient) {
            patient = isPatient;
            next = 0;
            at = 0;
            fault = 0;
            place = NONE;
            lastPlace = 0;
            lastName = 0;
            lastNumber = 0;
            laterFault = 0;
            laterPlace = NONE;
            boolean more = true;
            for (int i = 0; i <= MOST_TOKENS && more; i++) {
                find(i);
                more = kinds[i] != END && kinds[i] != NO_TOKEN;
            }
        }

        private void find(int i) {
            while (next < tape.length && isBlank(tape.byteAt(next))) {
                next++;
            }
            starts[i] = next;
            names[i] = 0;
            numbers[i] = 0;
            int first = tape.byteAt(next);
            if (first == NONE) {
                kinds[i] = END;
            } else if (isLetter(first)) {
                findLetters(i);
            } else if (isDigit(first)) {
                findDigits(i);
            } else {
                kinds[i] = isSign(first) ? first : NO_TOKEN;
                next++;
            }
        }

        private void findLetters(int i) {
            long name = 0;
            while (next < tape.length && isLetter(tape.byteAt(next))) {
                name = withLetter(name, tape.byteAt(next));
                next++;
            }
            names[i] = name;
            kinds[i] = next - starts[i] > MOST_LETTERS ? NO_TOKEN : kindOfWord(name);
        }

        private int kindOfWord(long name) {
            for (int word = 0; word < WORDS; word++) {
                if (words[word] == name) {
                    return WORD + word;
                }
            }
            return NAME;
        }

        private void findDigits(int i) {
            int number = 0;
            while (next < tape.length && isDigit(tape.byteAt(next))) {
                number = number * 10 + (tape.byteAt(next) - '0');
                next++;
            }
            numbers[i] = number;
            kinds[i] = next - starts[i] > MOST_DIGITS ? NO_TOKEN : INT;
        }

        private static boolean isBlank(int sign) {
            return sign == 9 || sign == 10 || sign == 13 || sign == 32;
        }

        private static boolean isLetter(int sign) {
            return sign >= 'a' && sign <= 'z';
        }

        private static boolean isDigit(int sign) {
            return sign >= '0' && sign <= '9';
        }

        private static boolean isSign(int sign) {
            return sign == ';' || sign == '=' || sign == '+' || sign == '*'
                    || sign == '(' || sign == ')' || sign == '[' || sign == ']';
        }

        int kindAhead() {
            return kinds[at];
        }

        int placeAhead() {
            return starts[at];
        }

        /** The number of the step that the TOKEN ahead tells; NONE: none. */
        int stepAhead() {
            int kind = kinds[at];
            if (kind != NAME && kind != WORD_REST && kind != WORD_EVER) {
                return NONE;
            }
            for (int step = 0; step < STEP_WORDS; step++) {
                if (words[WORDS + step] == names[at]) {
                    return step;
                }
            }
            return NONE;
        }

        /** Takes the TOKEN ahead, with which the text goes on; false: it is the 401st. */
        boolean take() {
            if (at >= MOST_TOKENS) {
                fault = FAULT_ROOM;
                place = starts[at];
                return false;
            }
            lastPlace = starts[at];
            lastName = names[at];
            lastNumber = numbers[at];
            at++;
            return true;
        }

        boolean accept(int kind) {
            return kinds[at] == kind ? take() : blame(FAULT_SYNTAX, starts[at]);
        }

        /** Tells a FAULT that ends the reading: there is but one of these. */
        boolean blame(int number, int where) {
            fault = number;
            place = where;
            return false;
        }

        /** Tells a FAULT of the TOKEN taken last; whether reading goes on all the same. */
        boolean object(int number) {
            if (!patient) {
                fault = number;
                place = lastPlace;
            } else if (laterFault == 0) {
                laterFault = number;
                laterPlace = lastPlace;
            }
            return patient;
        }

        int verdict() {
            return fault != 0 ? fault : laterFault;
        }

        int verdictPlace() {
            return fault != 0 ? place : laterPlace;
        }

        /** Reads a SIDE: its number, NONE with a FAULT that ends the reading. */
        int side(Law law) {
            if (kindAhead() == WORD_NOTHING) {
                return take() ? 0 : NONE;
            }
            int side = 0;
            for (int n = 0; n <= MOST_TOKENS; n++) {
                side = accept(NAME) ? withLastName(side, law) : NONE;
                if (side == NONE || kindAhead() != '+') {
                    return side;
                }
                if (!take()) {
                    return NONE;
                }
            }
            return NONE;
        }

        private int withLastName(int side, Law law) {
            int ground = law.roleOf(lastName);
            if (ground == NONE || ground >= ROLE_GROUND + ROLE) {
                return object(FAULT_NAME) ? side : NONE;
            }
            if (countOf(side, ground) == MOST_OF_GROUND) {
                return object(FAULT_WRONG) ? side : NONE;
            }
            return side + (1 << (2 * ground));
        }
    }

    /** What a text tells. OATHS are the deals 0 to 2, BARGAINS the deals 3 to 5. */
    private static final class Law {
        int grounds;
        int oaths;
        int bargains;
        int claims;
        int points;
        int told;
        int named;
        final int[] prices = new int[MOST_GROUNDS];
        final int[] takes = new int[MOST_DEALS];
        final int[] gives = new int[MOST_DEALS];
        /** The second SIDE that a BARGAIN gives; NONE: it has none. */
        final int[] others = new int[MOST_DEALS];
        final int[] worths = new int[MOST_CLAIMS];
        final int[] roots = new int[MOST_CLAIMS];
        final int[] kinds = new int[MOST_POINTS];
        final int[] firsts = new int[MOST_POINTS];
        final int[] seconds = new int[MOST_POINTS];
        /** The least of the POINTS that stand in a POINT: they are all from there up to it. */
        final int[] lowests = new int[MOST_POINTS];
        final long[] names = new long[MOST_NAMES];
        final int[] roles = new int[MOST_NAMES];

        void clear() {
            grounds = 0;
            oaths = 0;
            bargains = 0;
            claims = 0;
            points = 0;
            told = 0;
            named = 0;
        }

        int stockCount() {
            return 1 << (2 * grounds);
        }

        boolean hasPlace(int point, int stock, int set) {
            return point >= 0 && point < points && stock >= 0 && stock < stockCount()
                    && set >= 0 && set < 1 << bargains;
        }

        /** What bears a NAME: ROLE_.. and its number; NONE: nothing. */
        int roleOf(long name) {
            for (int i = 0; i < named; i++) {
                if (names[i] == name) {
                    return roles[i];
                }
            }
            return NONE;
        }

        void giveName(long name, int role) {
            if (named < MOST_NAMES) {
                names[named] = name;
                roles[named] = role;
                named++;
            }
        }

        /** A new POINT; NONE: there is no room for it. */
        int addPoint(int kind, int first, int second) {
            if (points >= MOST_POINTS) {
                return NONE;
            }
            int point = points;
            kinds[point] = kind;
            firsts[point] = first;
            seconds[point] = second;
            boolean hasPart = kind >= POINT_OR && first >= 0 && first < point;
            lowests[point] = hasPart ? lowests[first] : point;
            points++;
            return point;
        }
    }

    /** Reads a text. The methods answer false, or NONE, with a FAULT that ends the reading. */
    private static final class LawReader {
        final Tokens tokens;
        Law law;
        int nested;

        LawReader(Tokens tokens) {
            this.tokens = tokens;
        }

        void readInto(Law draft) {
            law = draft;
            law.clear();
            nested = 0;
            boolean goesOn = true;
            for (int n = 0; n <= MOST_TOKENS && goesOn && tokens.kindAhead() != END; n++) {
                switch (tokens.kindAhead()) {
                    case WORD_GROUND: goesOn = ground(); break;
                    case WORD_OATH: goesOn = givenOath(); break;
                    case WORD_BARGAIN: goesOn = givenBargain(); break;
                    case WORD_CLAIM: goesOn = claim(); break;
                    default: goesOn = tokens.blame(FAULT_SYNTAX, tokens.placeAhead());
                }
            }
        }

        /** The word of a TELL, if there is room for one more, and its NAME, which must be new. */
        private boolean begin(int told, int most, int role) {
            if (!tokens.take()) {
                return false;
            }
            if (told >= most) {
                return tokens.blame(FAULT_ROOM, tokens.lastPlace);
            }
            if (!tokens.accept(NAME)) {
                return false;
            }
            if (law.roleOf(tokens.lastName) != NONE) {
                return tokens.object(FAULT_TWICE);
            }
            law.giveName(tokens.lastName, role + told);
            return true;
        }

        private boolean number(int least, int most) {
            if (!tokens.accept(INT)) {
                return false;
            }
            int number = tokens.lastNumber;
            return number >= least && number <= most || tokens.object(FAULT_WRONG);
        }

        private boolean ground() {
            int ground = law.grounds;
            if (!begin(ground, MOST_GROUNDS, ROLE_GROUND) || !number(1, 99)) {
                return false;
            }
            law.prices[ground] = tokens.lastNumber;
            if (!number(0, MOST_OF_GROUND)) {
                return false;
            }
            law.told += (tokens.lastNumber & 3) << (2 * ground);
            law.grounds++;
            return tokens.accept(';');
        }

        private boolean givenOath() {
            int oath = law.oaths;
            if (!begin(oath, MOST_OATHS, ROLE_OATH) || !dealSides(oath)) {
                return false;
            }
            law.oaths++;
            return tokens.accept(';');
        }

        private boolean givenBargain() {
            int bargain = law.bargains;
            int deal = MOST_OATHS + bargain;
            if (!begin(bargain, MOST_BARGAINS, ROLE_BARGAIN) || !dealSides(deal)) {
                return false;
            }
            if (tokens.kindAhead() == WORD_OR) {
                if (!tokens.take()) {
                    return false;
                }
                law.others[deal] = tokens.side(law);
                if (law.others[deal] == NONE) {
                    return false;
                }
            }
            law.bargains++;
            return tokens.accept(';');
        }

        private boolean dealSides(int deal) {
            law.others[deal] = NONE;
            law.takes[deal] = tokens.side(law);
            if (law.takes[deal] == NONE || !tokens.accept(WORD_GIVES)) {
                return false;
            }
            law.gives[deal] = tokens.side(law);
            return law.gives[deal] != NONE;
        }

        private boolean claim() {
            int claim = law.claims;
            if (!begin(claim, MOST_CLAIMS, ROLE_CLAIM) || !number(0, 99)) {
                return false;
            }
            law.worths[claim] = tokens.lastNumber;
            if (!tokens.accept('=')) {
                return false;
            }
            law.roots[claim] = joined(POINT_OR);
            if (law.roots[claim] == NONE) {
                return false;
            }
            law.claims++;
            return tokens.accept(';');
        }

        /** What 'or', 'any' or '*' joins (that which binds less first): the POINT that it is in all. */
        private int joined(int kind) {
            if (kind > POINT_BOTH) {
                return unit();
            }
            int sign = kind == POINT_OR ? WORD_OR : kind == POINT_ANY ? WORD_ANY : '*';
            int point = joined(kind + 1);
            for (int n = 0; n <= MOST_TOKENS && point != NONE && tokens.kindAhead() == sign; n++) {
                if (!tokens.take()) {
                    return NONE;
                }
                int second = joined(kind + 1);
                point = second == NONE ? NONE : newPoint(kind, point, second);
            }
            return point;
        }

        private int unit() {
            int kind = tokens.kindAhead();
            boolean opens = kind == WORD_EVER || kind == '[' || kind == '(';
            if (!opens && kind != NAME && kind != WORD_NOTHING && kind != WORD_REST) {
                tokens.blame(FAULT_SYNTAX, tokens.placeAhead());
                return NONE;
            }
            if (!tokens.take()) {
                return NONE;
            }
            if (opens && nested >= MOST_NESTED) {
                tokens.blame(FAULT_ROOM, tokens.lastPlace);
                return NONE;
            }
            switch (kind) {
                case NAME: return newPoint(POINT_NAME, lastGround(), NONE);
                case WORD_NOTHING: return newPoint(POINT_NOTHING, NONE, NONE);
                case WORD_REST: return newPoint(POINT_REST, NONE, NONE);
                default: break;
            }
            nested++;
            int point = kind == '(' ? bracketed() : kind == '[' ? given() : ever();
            nested--;
            return point;
        }

        private int bracketed() {
            int point = joined(POINT_OR);
            return point != NONE && tokens.accept(')') ? point : NONE;
        }

        private int given() {
            int side = tokens.side(law);
            if (side == NONE || !tokens.accept(']')) {
                return NONE;
            }
            int part = unit();
            return part == NONE ? NONE : newPoint(POINT_GIVEN, part, side);
        }

        private int ever() {
            int part = unit();
            return part == NONE ? NONE : newPoint(POINT_EVER, part, NONE);
        }

        /** A NAME that is no GROUND makes the text one with a FAULT: which GROUND it is is free then. */
        private int lastGround() {
            int role = law.roleOf(tokens.lastName);
            if (role >= ROLE_GROUND && role < ROLE_GROUND + ROLE) {
                return role - ROLE_GROUND;
            }
            tokens.object(FAULT_NAME);
            return 0;
        }

        private int newPoint(int kind, int first, int second) {
            int point = law.addPoint(kind, first, second);
            if (point == NONE) {
                tokens.blame(FAULT_ROOM, tokens.lastPlace);
            }
            return point;
        }
    }

    /**
     * DEPTHS of all places, kept in rows by STOCKS: one row for the OATHS that hold, a POINT and
     * BARGAINS. A row is made when it is first asked for and stays good until the next text.
     */
    private static final class Depths {
        Law law = new Law();
        int version = 1;
        final int[] versions = new int[SETS * MOST_POINTS * SETS];
        final int[][] rows = new int[SETS * MOST_POINTS * SETS][];
        final int[] noRow = new int[STOCKS];
        /** The STOCK behind a deal's first and second case, by deals, cases and STOCKS; NONE: none. */
        final int[] targets = new int[MOST_DEALS * 2 * STOCKS];

        void adopt(Law told) {
            law = told;
            version++;
            for (int oath = 0; oath < law.oaths; oath++) {
                fillTargets(oath);
            }
            for (int bargain = 0; bargain < law.bargains; bargain++) {
                fillTargets(MOST_OATHS + bargain);
            }
        }

        private void fillTargets(int deal) {
            boolean two = law.others[deal] != NONE;
            for (int stock = 0; stock < law.stockCount(); stock++) {
                int first = exchange(stock, law.takes[deal], law.gives[deal]);
                int second = two ? exchange(stock, law.takes[deal], law.others[deal]) : NONE;
                boolean both = first != NONE && (second != NONE || !two);
                int at = 2 * deal * STOCKS + stock;
                targets[at] = both ? first : NONE;
                targets[at + STOCKS] = both ? second : NONE;
            }
        }

        /** NONE: the deal can't be done with that STOCK (or, of the second case, there is none). */
        int target(int deal, int way, int stock) {
            return targets[(2 * deal + way) * STOCKS + stock];
        }

        private static int rowNumber(int oaths, int point, int set) {
            return (oaths * MOST_POINTS + point) * SETS + set;
        }

        /** The row of what was prepared; of anything else one that says that it can't be shown. */
        int[] rowOf(int oaths, int point, int set) {
            int number = rowNumber(oaths, point, set);
            if (number < 0 || number >= rows.length || versions[number] != version) {
                return noRow;
            }
            int[] row = rows[number];
            return row == null ? noRow : row;
        }

        /** DEPTH of a place that was prepared; 0: it can't be shown. */
        int least(int oaths, int point, int stock, int set) {
            return stock >= 0 && stock < STOCKS ? rowOf(oaths, point, set)[stock] : 0;
        }

        /** Makes the rows of all places that can come below a POINT with BARGAINS. */
        void prepare(int oaths, int point, int set) {
            if (point < 0 || point >= law.points || versions[rowNumber(oaths, point, set)] == version) {
                return;
            }
            for (int p = law.lowests[point]; p <= point; p++) {
                for (int some = 0; some <= set; some++) {
                    if (isSubset(some, set)) {
                        fillRow(oaths, p, some);
                    }
                }
            }
        }

        /** Parts of the POINT and lesser sets of BARGAINS must have their rows. */
        private void fillRow(int oaths, int point, int set) {
            int number = rowNumber(oaths, point, set);
            if (versions[number] == version) {
                return;
            }
            if (rows[number] == null) {
                rows[number] = new int[STOCKS];
            }
            int[] row = rows[number];
            Arrays.fill(row, 0);
            byOwnKind(row, oaths, point, set);
            byBargains(row, oaths, point, set);
            byOaths(row, oaths);
            versions[number] = version;
        }

        private void byOwnKind(int[] row, int oaths, int point, int set) {
            int first = law.firsts[point];
            int second = law.seconds[point];
            switch (law.kinds[point]) {
                case POINT_NAME: row[1 << (2 * first)] = 1; break;
                case POINT_NOTHING: row[0] = 1; break;
                case POINT_REST: Arrays.fill(row, 1); break;
                case POINT_OR:
                    byPart(row, rowOf(oaths, first, set), 0);
                    byPart(row, rowOf(oaths, second, set), 0);
                    break;
                case POINT_ANY: byBoth(row, rowOf(oaths, first, set), rowOf(oaths, second, set)); break;
                case POINT_BOTH: bySplits(row, oaths, point, set); break;
                case POINT_EVER: improve(row, 0, rowOf(oaths, first, 0)[0]); break;
                case POINT_GIVEN: byPart(row, rowOf(oaths, first, set), second); break;
                default: break;
            }
        }

        /** The part, with a SIDE more. */
        private void byPart(int[] row, int[] part, int side) {
            for (int stock = 0; stock + side < law.stockCount(); stock++) {
                if (fits(stock, side)) {
                    improve(row, stock, part[stock + side]);
                }
            }
        }

        private void byBoth(int[] row, int[] first, int[] second) {
            for (int stock = 0; stock < law.stockCount(); stock++) {
                improve(row, stock, deeper(first[stock], second[stock]));
            }
        }

        private void bySplits(int[] row, int oaths, int point, int set) {
            for (int some = 0; some <= set; some++) {
                if (isSubset(some, set)) {
                    int[] first = rowOf(oaths, law.firsts[point], some);
                    int[] second = rowOf(oaths, law.seconds[point], set - some);
                    bySplit(row, first, second);
                }
            }
        }

        /** By far the dearest loop: it goes without calls that others make. */
        private void bySplit(int[] row, int[] first, int[] second) {
            int count = law.stockCount();
            for (int some = 0; some < count; some++) {
                int mine = first[some];
                int all = mine > 0 ? some : count;
                for (int n = 0; n < count && all < count; n++) {
                    int other = second[all - some];
                    int below = mine > other ? mine : other;
                    if (other > 0 && (row[all] == 0 || row[all] > below + 1)) {
                        row[all] = below + 1;
                    }
                    all = nextAbove(all, some);
                }
            }
        }

        private void byBargains(int[] row, int oaths, int point, int set) {
            for (int bargain = 0; bargain < law.bargains; bargain++) {
                if (hasBit(set, bargain)) {
                    byBargain(row, rowOf(oaths, point, set - (1 << bargain)), MOST_OATHS + bargain);
                }
            }
        }

        private void byBargain(int[] row, int[] below, int deal) {
            boolean two = law.others[deal] != NONE;
            for (int stock = 0; stock < law.stockCount(); stock++) {
                int first = target(deal, 0, stock);
                if (first != NONE) {
                    int second = two ? target(deal, 1, stock) : first;
                    improve(row, stock, deeper(below[first], second == NONE ? 0 : below[second]));
                }
            }
        }

        /** OATHS lead round in circles, so their steps are tried until none makes a DEPTH less. */
        private void byOaths(int[] row, int oaths) {
            boolean changed = true;
            for (int round = 0; round <= STOCKS && changed; round++) {
                changed = false;
                for (int oath = 0; oath < law.oaths; oath++) {
                    if (hasBit(oaths, oath) && byOath(row, oath)) {
                        changed = true;
                    }
                }
            }
        }

        private boolean byOath(int[] row, int oath) {
            boolean changed = false;
            for (int stock = 0; stock < law.stockCount(); stock++) {
                int after = target(oath, 0, stock);
                if (after != NONE && improve(row, stock, row[after])) {
                    changed = true;
                }
            }
            return changed;
        }

        private static int deeper(int first, int second) {
            return first == 0 || second == 0 ? 0 : Math.max(first, second);
        }

        /** One step above what has a DEPTH below (0: none): whether that is less than was known. */
        private static boolean improve(int[] row, int stock, int below) {
            if (below == 0 || row[stock] != 0 && row[stock] <= below + 1) {
                return false;
            }
            row[stock] = below + 1;
            return true;
        }
    }

    /** The MOVES of the place that is looked at, and the one of them that was picked last. */
    private static final class Moves {
        final Depths depths;
        int oaths;
        int point;
        int stock;
        int set;
        int own;
        int kind;
        int splitStock;
        int splitSet;
        int leads;
        final int[] leadPoints = new int[2];
        final int[] leadStocks = new int[2];
        final int[] leadSets = new int[2];

        Moves(Depths depths) {
            this.depths = depths;
        }

        void lookAt(int oathsThatHold, int atPoint, int withStock, int withBargains) {
            oaths = oathsThatHold;
            point = atPoint;
            stock = withStock;
            set = withBargains;
            own = ownMoves();
        }

        /** How many steps of the POINT's own kind can be done. */
        private int ownMoves() {
            Law law = depths.law;
            switch (law.kinds[point]) {
                case POINT_NAME: return stock == 1 << (2 * law.firsts[point]) ? 1 : 0;
                case POINT_NOTHING:
                case POINT_EVER: return stock == 0 ? 1 : 0;
                case POINT_OR: return 2;
                case POINT_BOTH: return subStocks() << Integer.bitCount(set);
                case POINT_GIVEN: return fits(stock, law.seconds[point]) ? 1 : 0;
                default: return 1;
            }
        }

        private int subStocks() {
            int count = 1;
            for (int ground = 0; ground < MOST_GROUNDS; ground++) {
                count *= countOf(stock, ground) + 1;
            }
            return count;
        }

        private boolean canOath(int oath) {
            return hasBit(oaths, oath) && depths.target(oath, 0, stock) != NONE;
        }

        private boolean canBargain(int bargain) {
            return hasBit(set, bargain) && depths.target(MOST_OATHS + bargain, 0, stock) != NONE;
        }

        int total() {
            int total = own;
            for (int oath = 0; oath < depths.law.oaths; oath++) {
                total += canOath(oath) ? 1 : 0;
            }
            for (int bargain = 0; bargain < depths.law.bargains; bargain++) {
                total += canBargain(bargain) ? 1 : 0;
            }
            return total;
        }

        /** Picks the i-th one; false: not so many. */
        boolean pick(int i) {
            splitStock = NONE;
            splitSet = NONE;
            leads = 0;
            if (i < 0) {
                return false;
            }
            if (i < own) {
                pickOwn(i);
                return true;
            }
            return pickDeal(i - own);
        }

        private void pickOwn(int i) {
            Law law = depths.law;
            int first = law.firsts[point];
            int second = law.seconds[point];
            switch (law.kinds[point]) {
                case POINT_NAME: kind = STEP_IS; break;
                case POINT_NOTHING: kind = STEP_NONE; break;
                case POINT_REST: kind = STEP_REST; break;
                case POINT_OR:
                    kind = i == 0 ? STEP_LEFT : STEP_RIGHT;
                    lead(i == 0 ? first : second, stock, set);
                    break;
                case POINT_ANY:
                    kind = STEP_EACH;
                    lead(first, stock, set);
                    lead(second, stock, set);
                    break;
                case POINT_BOTH:
                    kind = STEP_SPLIT;
                    pickSplit(i);
                    lead(first, splitStock, splitSet);
                    lead(second, stock - splitStock, set - splitSet);
                    break;
                case POINT_EVER:
                    kind = STEP_EVER;
                    lead(first, 0, 0);
                    break;
                default:
                    kind = STEP_GIVEN;
                    lead(first, stock + second, set);
            }
        }

        private void lead(int toPoint, int toStock, int toSet) {
            if (leads < 2) {
                leadPoints[leads] = toPoint;
                leadStocks[leads] = toStock;
                leadSets[leads] = toSet;
                leads++;
            }
        }

        /** Part by part what i is when it is counted through the sets first, then the STOCKS. */
        private void pickSplit(int i) {
            int rest = i;
            splitSet = 0;
            for (int bargain = 0; bargain < MOST_BARGAINS; bargain++) {
                if (hasBit(set, bargain)) {
                    splitSet |= (rest & 1) << bargain;
                    rest >>= 1;
                }
            }
            splitStock = 0;
            for (int ground = 0; ground < MOST_GROUNDS; ground++) {
                int ways = countOf(stock, ground) + 1;
                splitStock |= rest % ways << (2 * ground);
                rest /= ways;
            }
        }

        private boolean pickDeal(int i) {
            int left = i;
            for (int oath = 0; oath < depths.law.oaths; oath++) {
                if (canOath(oath)) {
                    if (left == 0) {
                        kind = STEP_OATH + oath;
                        lead(point, depths.target(oath, 0, stock), set);
                        return true;
                    }
                    left--;
                }
            }
            for (int bargain = 0; bargain < depths.law.bargains; bargain++) {
                if (canBargain(bargain)) {
                    if (left == 0) {
                        leadByBargain(bargain);
                        return true;
                    }
                    left--;
                }
            }
            return false;
        }

        private void leadByBargain(int bargain) {
            int deal = MOST_OATHS + bargain;
            int others = set - (1 << bargain);
            kind = STEP_BARGAIN + bargain;
            lead(point, depths.target(deal, 0, stock), others);
            if (depths.law.others[deal] != NONE) {
                lead(point, depths.target(deal, 1, stock), others);
            }
        }

        /** DEPTH by the one that was picked; 0: it can't be shown by it. */
        int depthByIt() {
            int deepest = 0;
            for (int i = 0; i < leads && i < 2; i++) {
                int depth = depths.least(oaths, leadPoints[i], leadStocks[i], leadSets[i]);
                if (depth == 0) {
                    return 0;
                }
                deepest = Math.max(deepest, depth);
            }
            return deepest + 1;
        }

        int firstUnshown() {
            for (int i = 0; i < leads && i < 2; i++) {
                if (depths.least(oaths, leadPoints[i], leadStocks[i], leadSets[i]) == 0) {
                    return PLACES_OF_POINT * leadPoints[i] + SETS * leadStocks[i] + leadSets[i];
                }
            }
            return CANNOT;
        }

        /** Picks the step of THE SHOWING; false: the place can't be shown. */
        boolean pickBest() {
            int depth = depths.least(oaths, point, stock, set);
            int total = total();
            for (int i = 0; depth > 0 && i < total; i++) {
                if (pick(i) && depthByIt() == depth) {
                    return true;
                }
            }
            return false;
        }

        /** Whether the one that was picked waits for the other side's answer. */
        boolean asksAnswer() {
            return kind >= STEP_BARGAIN && leads == 2;
        }

        int tell(int what) {
            switch (what) {
                case 0: return kind;
                case 1: return point;
                case 2: return stock;
                case 3: return set;
                case 4: return splitStock;
                case 5: return splitSet;
                default: return NONE;
            }
        }
    }

    /** Goes by THE SHOWING: the places that must still be shown, one on the other. */
    private static final class Walk {
        /** Below a place stands at most one of each POINT and BARGAIN above it. */
        private static final int MOST_OPEN = 64;
        private static final int BOTH = -1;

        final Moves moves;
        final int[] points = new int[MOST_OPEN];
        final int[] stocks = new int[MOST_OPEN];
        final int[] sets = new int[MOST_OPEN];
        int oaths;
        int size;

        Walk(Moves moves) {
            this.moves = moves;
        }

        void begin(Hand hand, int root) {
            oaths = hand.oaths;
            size = 0;
            open(root, hand.stock, hand.bargains);
        }

        private void open(int point, int stock, int set) {
            if (size < MOST_OPEN) {
                points[size] = point;
                stocks[size] = stock;
                sets[size] = set;
                size++;
            }
        }

        /** The step of the top place is picked among its MOVES; false: all is shown. */
        boolean choose() {
            if (size <= 0 || size > MOST_OPEN) {
                return false;
            }
            int top = size - 1;
            moves.lookAt(oaths, points[top], stocks[top], sets[top]);
            return moves.pickBest();
        }

        /** Does the step that was chosen, with an answer to a BARGAIN with two SIDES, or BOTH. */
        void follow(int answer) {
            if (size > 0) {
                size--;
            }
            boolean one = moves.asksAnswer() && answer != BOTH;
            for (int i = Math.min(moves.leads, 2) - 1; i >= 0; i--) {
                if (!one || i == answer) {
                    open(moves.leadPoints[i], moves.leadStocks[i], moves.leadSets[i]);
                }
            }
        }

        /** Does so many steps, or all there are, in all cases: how many. */
        int passOn(int most) {
            int done = 0;
            while (done < most && done < MOST_STEPS && choose()) {
                follow(BOTH);
                done++;
            }
            return done;
        }
    }

    /**
     * TOGETHER and PARTS. What a set of CLAIMS is worth is one number, 64 times its WORTH less its
     * bits: the greatest is that with the most WORTH, of alike ones that with the least bits, and it
     * tells the set. The best for the CLAIMS from one on is kept by BARGAINS and STOCKS.
     */
    private static final class Parting {
        /** Below all that a set can be worth. */
        private static final int IMPOSSIBLE = -1000000;

        final Depths depths;
        /** What was at hand when all this was found; held: it still holds. */
        final Hand settled = new Hand();
        int[] best = new int[0];
        boolean found;
        int worth;
        int set;
        final int[] stocks = new int[MOST_CLAIMS];
        final int[] bargains = new int[MOST_CLAIMS];

        Parting(Depths depths) {
            this.depths = depths;
        }

        void settle(Hand hand) {
            if (settled.held && settled.isAlike(hand)) {
                return;
            }
            settled.copy(hand);
            settled.held = true;
            if (best.length == 0) {
                best = new int[(MOST_CLAIMS + 1) * PLACES_OF_POINT];
            }
            fillWithoutClaims(depths.law.claims);
            for (int claim = depths.law.claims - 1; claim >= 0; claim--) {
                depths.prepare(settled.oaths, depths.law.roots[claim], settled.bargains);
                fillFrom(claim);
            }
            int all = best[at(0, settled.bargains) + settled.stock];
            found = all != IMPOSSIBLE;
            set = found ? (-all) & 63 : 0;
            worth = found ? (all + set) >> 6 : 0;
            if (found) {
                partAll(all);
            }
        }

        private static int at(int claim, int some) {
            return claim * PLACES_OF_POINT + some * STOCKS;
        }

        private int valueOf(int claim) {
            return 64 * depths.law.worths[claim] - (1 << claim);
        }

        private void fillWithoutClaims(int claim) {
            for (int some = 0; some < SETS; some++) {
                int from = at(claim, some);
                Arrays.fill(best, from, from + STOCKS, IMPOSSIBLE);
                best[from] = 0;
            }
        }

        private void fillFrom(int claim) {
            for (int all = 0; all <= settled.bargains; all++) {
                if (isSubset(all, settled.bargains)) {
                    System.arraycopy(best, at(claim + 1, all), best, at(claim, all), STOCKS);
                    for (int some = 0; some <= all; some++) {
                        if (isSubset(some, all)) {
                            withClaim(claim, all, some);
                        }
                    }
                }
            }
        }

        /** The CLAIM with some of the BARGAINS, those behind it with the others. */
        private void withClaim(int claim, int all, int some) {
            int[] row = depths.rowOf(settled.oaths, depths.law.roots[claim], some);
            int value = valueOf(claim);
            int here = at(claim, all);
            int behind = at(claim + 1, all - some);
            for (int stock = 0; stock <= settled.stock; stock++) {
                int whole = row[stock] > 0 ? stock : STOCKS;
                for (int n = 0; n < STOCKS && whole <= settled.stock; n++) {
                    int rest = best[behind + whole - stock];
                    if (rest != IMPOSSIBLE && rest + value > best[here + whole]) {
                        best[here + whole] = rest + value;
                    }
                    whole = nextAbove(whole, stock);
                }
            }
        }

        private void partAll(int value) {
            int left = value;
            int stock = settled.stock;
            int some = settled.bargains;
            for (int claim = 0; claim < depths.law.claims; claim++) {
                if (hasBit(set, claim)) {
                    left -= valueOf(claim);
                    partFor(claim, stock, some, left);
                    stock -= stocks[claim];
                    some -= bargains[claim];
                }
            }
        }

        /** The least part for a CLAIM with which those behind it are still worth what they must be. */
        private void partFor(int claim, int stock, int all, int left) {
            stocks[claim] = 0;
            bargains[claim] = 0;
            int root = depths.law.roots[claim];
            for (int mine = 0; mine <= stock; mine++) {
                for (int some = 0; some <= all && isWithin(mine, stock); some++) {
                    if (isSubset(some, all) && depths.least(settled.oaths, root, mine, some) > 0
                            && best[at(claim + 1, all - some) + stock - mine] == left) {
                        stocks[claim] = mine;
                        bargains[claim] = some;
                        return;
                    }
                }
            }
        }
    }

    /** Checks a SHOWING told as a text, step by step, with the places that must still be shown. */
    private static final class ShowingReader {
        /** Below a place stands at most one of each step above it. */
        private static final int MOST_OPEN = MOST_LEVELS + 4;

        final Tokens tokens;
        final Depths depths;
        final int[] places = new int[MOST_OPEN];
        final int[] levels = new int[MOST_OPEN];
        /** The STOCKS of the row of OATHS one below the other that is being read. */
        final int[] row = new int[MOST_OPEN];
        int rowLength;
        int size;
        int oaths;
        int point;
        int stock;
        int set;
        int level;
        int begun;
        int steps;
        int deepest;
        int idle;
        boolean passed;
        int passedSteps;
        int passedDepth;
        int passedIdle;

        ShowingReader(Tokens tokens, Depths depths) {
            this.tokens = tokens;
            this.depths = depths;
        }

        void check(Hand hand, int root) {
            oaths = hand.oaths;
            size = 0;
            rowLength = 0;
            steps = 0;
            deepest = 0;
            idle = 0;
            level = 0;
            open(root, hand.stock, hand.bargains);
            boolean goesOn = true;
            for (int n = 0; n <= MOST_TOKENS && goesOn && size > 0; n++) {
                goesOn = oneStep();
            }
            if (goesOn && tokens.kindAhead() != END) {
                goesOn = tokens.blame(FAULT_SYNTAX, tokens.placeAhead());
            }
            if (goesOn) {
                passed = true;
                passedSteps = steps;
                passedDepth = deepest;
                passedIdle = idle;
            }
        }

        /** What must be shown one level below the step that is being read. */
        private boolean open(int toPoint, int toStock, int toSet) {
            if (size < MOST_OPEN) {
                places[size] = PLACES_OF_POINT * toPoint + SETS * toStock + toSet;
                levels[size] = level + 1;
                size++;
            }
            return true;
        }

        private void closeTop() {
            size--;
            int place = places[size];
            level = levels[size];
            set = place % SETS;
            stock = place / SETS % STOCKS;
            point = place / PLACES_OF_POINT;
        }

        private boolean oneStep() {
            closeTop();
            int step = tokens.stepAhead();
            if (step == NONE) {
                return tokens.blame(FAULT_SYNTAX, tokens.placeAhead());
            }
            if (!tokens.take()) {
                return false;
            }
            begun = tokens.lastPlace;
            if (level > MOST_LEVELS) {
                return tokens.blame(FAULT_ROOM, begun);
            }
            if (step != STEP_USE && kindFor(step) != depths.law.kinds[point]) {
                return tokens.blame(FAULT_KIND, begun);
            }
            steps++;
            deepest = Math.max(deepest, level);
            if (step == STEP_USE) {
                return use();
            }
            closeRow();
            return step == STEP_SPLIT ? split() : simpleStep(step);
        }

        private static int kindFor(int step) {
            switch (step) {
                case STEP_IS: return POINT_NAME;
                case STEP_NONE: return POINT_NOTHING;
                case STEP_REST: return POINT_REST;
                case STEP_LEFT:
                case STEP_RIGHT: return POINT_OR;
                case STEP_EACH: return POINT_ANY;
                case STEP_SPLIT: return POINT_BOTH;
                case STEP_EVER: return POINT_EVER;
                case STEP_GIVEN: return POINT_GIVEN;
                default: return NONE;
            }
        }

        private boolean wrongStock() {
            return tokens.blame(FAULT_STOCK, begun);
        }

        private boolean simpleStep(int step) {
            int first = depths.law.firsts[point];
            int second = depths.law.seconds[point];
            switch (step) {
                case STEP_IS: return stock == 1 << (2 * first) || wrongStock();
                case STEP_NONE: return stock == 0 || wrongStock();
                case STEP_LEFT: return open(first, stock, set);
                case STEP_RIGHT: return open(second, stock, set);
                case STEP_EACH: return open(second, stock, set) && open(first, stock, set);
                case STEP_EVER: return stock == 0 ? open(first, 0, 0) : wrongStock();
                case STEP_GIVEN:
                    return fits(stock, second) ? open(first, stock + second, set) : wrongStock();
                default: return true;
            }
        }

        private boolean split() {
            int side = tokens.side(depths.law);
            if (side == NONE || !tokens.accept('(')) {
                return false;
            }
            int some = bargainsNamed();
            if (some == NONE || !tokens.accept(')')) {
                return false;
            }
            if (!isWithin(side, stock)) {
                return wrongStock();
            }
            return open(depths.law.seconds[point], stock - side, set - some)
                    && open(depths.law.firsts[point], side, some);
        }

        /** The BARGAINS for the first part; NONE with one that is wrong. */
        private int bargainsNamed() {
            int some = 0;
            for (int n = 0; n <= MOST_TOKENS && tokens.kindAhead() == NAME; n++) {
                if (!tokens.take()) {
                    return NONE;
                }
                int bargain = depths.law.roleOf(tokens.lastName) - ROLE_BARGAIN;
                if (bargain < 0 || bargain >= ROLE) {
                    tokens.object(FAULT_NAME);
                    return NONE;
                }
                if (!hasBit(set, bargain) || hasBit(some, bargain)) {
                    tokens.object(FAULT_DEAL);
                    return NONE;
                }
                some |= 1 << bargain;
            }
            return some;
        }

        private boolean use() {
            if (!tokens.accept(NAME)) {
                return false;
            }
            int role = depths.law.roleOf(tokens.lastName);
            if (role >= ROLE_OATH && role < ROLE_OATH + ROLE) {
                return useOath(role - ROLE_OATH);
            }
            if (role >= ROLE_BARGAIN && role < ROLE_BARGAIN + ROLE) {
                closeRow();
                return useBargain(role - ROLE_BARGAIN);
            }
            return tokens.object(FAULT_NAME);
        }

        private boolean useOath(int oath) {
            int after = depths.target(oath, 0, stock);
            if (!hasBit(oaths, oath) || after == NONE) {
                return tokens.blame(FAULT_DEAL, begun);
            }
            if (rowLength == 0) {
                addToRow(stock);
            }
            addToRow(after);
            return open(point, after, set);
        }

        private boolean useBargain(int bargain) {
            int deal = MOST_OATHS + bargain;
            int after = depths.target(deal, 0, stock);
            if (!hasBit(set, bargain) || after == NONE) {
                return tokens.blame(FAULT_DEAL, begun);
            }
            int others = set - (1 << bargain);
            if (depths.law.others[deal] != NONE) {
                open(point, depths.target(deal, 1, stock), others);
            }
            return open(point, after, others);
        }

        private void addToRow(int next) {
            if (rowLength < MOST_OPEN) {
                row[rowLength] = next;
                rowLength++;
            }
        }

        /** A row of OATHS ends: from each place on, what leads back to its STOCK last was IDLE. */
        private void closeRow() {
            int from = 0;
            while (from < rowLength) {
                int last = from;
                for (int to = from + 1; to < rowLength; to++) {
                    if (row[to] == row[from]) {
                        last = to;
                    }
                }
                idle += last - from;
                from = last + 1;
            }
            rowLength = 0;
        }
    }
}
