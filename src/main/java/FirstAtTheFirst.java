/** Two or three SIDES who choose by turns from what is left; ../shared/DOC.md has the promises. */
public final class FirstAtTheFirst {
    public static final int NONE = -1;

    private static final int BAD = -2;
    private static final int OTHER = -3;
    private static final int NOTHING = -4;
    private static final int STUCK = -5;
    private static final int FULL = -6;
    private static final int REFUSAL_KINDS = 5;
    private static final int BELOW_ALL_SHAMS = -10000000;
    private static final long BELOW_ALL_POWERS = -10000000000000L;
    private static final int BELOW_ALL_COUNTS = -20;

    private static final int SIDES_MOST = 3;
    private static final int THINGS_MOST = 8;
    private static final int SETS = 1 << THINGS_MOST;
    private static final int WORTH_MOST = 99;
    private static final int LAW_MOST = 3;
    private static final int ORDER_MOST = 12;
    private static final int TURN_MOST = 1000000000;
    private static final int RIVAL_WITHIN = 24;
    private static final int TAPE_MOST = 250;
    private static final int SHELVES_MOST = 8;
    private static final int ROW_MOST = 40;
    private static final int RUNS_MOST = 4000;
    private static final int POWERS_MOST = 1000;
    // More than any WORTHS come to.
    private static final int ABOVE_ALL = 1000000;

    private static final int PICK = 0;
    private static final int BEST = 1;
    private static final int SPOILS = 2;
    private static final int WAITS = 3;
    private static final int LASTS = 4;
    private static final int LOOKS = 5;

    private final Estate now = new Estate();
    private final Estate kept = new Estate();
    private final Estate draft = new Estate();
    private final Tape tape = new Tape();
    private final Shelves shelves = new Shelves();
    private final int[] refusals = new int[REFUSAL_KINDS];
    private boolean isKept;
    // What is thought of in one call alone; the rows are made once, as calls must make nothing new.
    private final Mind mind = new Mind();
    private final Mind misled = new Mind();
    private final int[] taken = new int[THINGS_MOST];
    private int takenCount;
    private final int[] has = new int[SIDES_MOST];
    private final int[] trial = new int[THINGS_MOST];
    private final int[] fair = new int[THINGS_MOST];

    public FirstAtTheFirst() {
    }

    // ---- ROWS and SHELVES

    public int row(int s, int sort, int n) {
        if (!Shelves.isShelf(s) || !Shelves.isSort(sort) || n < 0 || n > ROW_MOST) {
            return refuse(BAD);
        }
        shelves.putRow(s, sort, n);
        return 1;
    }

    public int set(int s, int i, long v) {
        if (!Shelves.isShelf(s)) {
            return refuse(BAD);
        }
        int trouble = shelves.rowTrouble(s);
        if (trouble != 0) {
            return refuse(trouble);
        }
        if (i < 0 || i >= shelves.sizeOf(s)) {
            return refuse(BAD);
        }
        shelves.putElement(s, i, v);
        return 1;
    }

    public int copy(int p, int q, int i, int j, int n) {
        if (!Shelves.isShelf(p) || !Shelves.isShelf(q)) {
            return refuse(BAD);
        }
        int trouble = shelves.pairTrouble(p, q);
        if (trouble != 0) {
            return refuse(trouble);
        }
        if (i < 0 || j < 0 || n < 0 || n > shelves.sizeOf(p) - i || n > shelves.sizeOf(q) - j) {
            return refuse(BAD);
        }
        shelves.copyElements(p, q, i, j, n);
        return n;
    }

    public long element(int s, int i) {
        return shelves.elementOf(s, i);
    }

    public int holds(int s) {
        return shelves.kindOf(s);
    }

    public int show(int s, int side) {
        if (!Shelves.isShelf(s) || side != NONE && !now.isSide(side)) {
            return refuse(BAD);
        }
        if (side == NONE) {
            shelves.putNothing(s);
        } else {
            shelves.putBent(s, side, now.bentOf(side));
        }
        return 1;
    }

    public int says(int s, int bent) {
        if (!Shelves.isShelf(s) || !isBent(bent)) {
            return refuse(BAD);
        }
        int trouble = shelves.bentTrouble(s);
        if (trouble != 0) {
            return refuse(trouble);
        }
        int own = shelves.bentOf(s);
        if (!isUnder(own, bent)) {
            return refuse(OTHER);
        }
        int side = shelves.sideOfBent(s);
        if (!now.isSide(side)) {
            return refuse(BAD);
        }
        return wouldTake(side, own);
    }

    // ---- THE ESTATE

    public int sides(int n) {
        if (n < 2 || n > SIDES_MOST) {
            return refuse(BAD);
        }
        if (now.things > 0) {
            return refuse(STUCK);
        }
        int ahead = now.sides;
        now.becomeSides(n);
        return ahead;
    }

    public int thing(int a, int b, int c) {
        if (!isWorth(a) || !isWorth(b) || now.sides > 2 && !isWorth(c)) {
            return refuse(BAD);
        }
        if (now.things >= THINGS_MOST) {
            return refuse(FULL);
        }
        now.addThing(a, b, c);
        return now.things - 1;
    }

    public int worth(int side, int thing, int v) {
        if (!now.isSide(side) || !now.isThing(thing) || !isWorth(v)) {
            return refuse(BAD);
        }
        int ahead = now.worthTo(side, thing);
        put(now.worths, side * THINGS_MOST + thing, v);
        return ahead;
    }

    public int bent(int side, int bent) {
        if (!now.isSide(side) || !isBent(bent)) {
            return refuse(BAD);
        }
        int ahead = now.bentOf(side);
        put(now.bents, side, bent);
        return ahead;
    }

    public int law(int v) {
        if (!isLaw(v)) {
            return refuse(BAD);
        }
        int ahead = now.law;
        now.law = v;
        return ahead;
    }

    public int order(int s, int n) {
        if (!Shelves.isShelf(s) || n < 1 || n > ORDER_MOST) {
            return refuse(BAD);
        }
        int trouble = shelves.rowTrouble(s);
        if (trouble != 0) {
            return refuse(trouble);
        }
        if (!shelves.isRowBelow(s, n, now.sides)) {
            return refuse(BAD);
        }
        for (int i = 0; i < n; i++) {
            put(now.order, i, (int) shelves.elementOf(s, i));
        }
        now.orderSize = n;
        return n;
    }

    public int turn(int v) {
        if (v < 0 || v > TURN_MOST) {
            return refuse(BAD);
        }
        int ahead = now.turn;
        now.turn = v;
        return ahead;
    }

    public int own(int thing, int side) {
        if (!now.isThing(thing) || side != NONE && !now.isSide(side)) {
            return refuse(BAD);
        }
        int ahead = now.ownerOf(thing);
        put(now.owners, thing, side);
        return ahead;
    }

    public int feed(int letter) {
        if (letter < 0 || letter > 255) {
            return refuse(BAD);
        }
        if (tape.size >= TAPE_MOST) {
            return refuse(FULL);
        }
        put(tape.bytes, tape.size, letter);
        tape.size++;
        return tape.size;
    }

    public int wipe() {
        int ahead = tape.size;
        tape.size = 0;
        return ahead;
    }

    public int estate() {
        draft.become(now);
        int statements = tape.readEstate(draft);
        tape.size = 0;
        if (tape.fault != NONE) {
            refuse(BAD);
            return BELOW_ALL_COUNTS - tape.fault;
        }
        now.become(draft);
        return statements;
    }

    public int thingOf(int thing, int what) {
        if (!now.isThing(thing) || what < 0 || what > now.sides) {
            return refuse(BAD);
        }
        return what == 0 ? now.ownerOf(thing) : now.worthTo(what - 1, thing);
    }

    public int sideOf(int side, int what) {
        if (!now.isSide(side) || what < 0 || what > 2) {
            return refuse(BAD);
        }
        if (what == 0) {
            return now.bentOf(side);
        }
        return what == 1 ? now.hasNow(side) : now.setOf(side);
    }

    // ---- TURNS

    public int whose(int law, int t) {
        if (!isLaw(law) || t < 0 || t > TURN_MOST) {
            return refuse(BAD);
        }
        return now.sideAt(law, t);
    }

    public int runs(int law, int m) {
        if (!isLaw(law) || m < 1 || m > RUNS_MOST) {
            return refuse(BAD);
        }
        int most = 0;
        int length = 0;
        int before = NONE;
        for (int t = 0; t < m; t++) {
            int side = now.sideAt(law, t);
            length = side == before ? length + 1 : 1;
            before = side;
            most = Math.max(most, length);
        }
        return most;
    }

    public long powers(int law, int m, int p) {
        if (!isLaw(law) || m < 0 || m > POWERS_MOST || p < 0 || p > 3) {
            return BELOW_ALL_POWERS + refuse(BAD);
        }
        long sum = 0;
        for (int t = 0; t < m; t++) {
            int side = now.sideAt(law, t);
            if (side == 0) {
                sum += power(t, p);
            } else if (side == 1) {
                sum -= power(t, p);
            }
        }
        return sum;
    }

    public int rival(int side) {
        if (!now.isSide(side)) {
            return refuse(BAD);
        }
        mind.expectLaw(now, now.law);
        return mind.rivalOf(side, 0);
    }

    // ---- PICKS in thought

    public int takes(int side) {
        if (!now.isSide(side)) {
            return refuse(BAD);
        }
        if (now.setOf(NONE) == 0) {
            return refuse(STUCK);
        }
        return wouldTake(side, now.bentOf(side));
    }

    public int run(int law, int i) {
        if (!isLaw(law) || i < 0) {
            return refuse(BAD);
        }
        if (i >= Integer.bitCount(now.setOf(NONE))) {
            return refuse(STUCK);
        }
        runByLaw(law);
        return at(taken, i);
    }

    public int gets(int law, int side) {
        if (!isLaw(law) || !now.isSide(side)) {
            return refuse(BAD);
        }
        runByLaw(law);
        return at(has, side);
    }

    public int unequal(int law) {
        if (!isLaw(law)) {
            return refuse(BAD);
        }
        runByLaw(law);
        return spread();
    }

    public int game(int law, int side) {
        if (!isLaw(law) || side != NONE && !now.isSide(side)) {
            return refuse(BAD);
        }
        playGame(law);
        return side == NONE ? spread() : at(has, side);
    }

    public int opening(int law) {
        if (!isLaw(law)) {
            return refuse(BAD);
        }
        if (now.setOf(NONE) == 0) {
            return refuse(STUCK);
        }
        return playGame(law);
    }

    public int fairest(int i) {
        if (i < NONE) {
            return refuse(BAD);
        }
        int picks = Integer.bitCount(now.setOf(NONE));
        if (i >= picks) {
            return refuse(STUCK);
        }
        int least = findFairest(picks);
        return i == NONE ? least : at(fair, i);
    }

    public int best() {
        int best = 0;
        int least = ABOVE_ALL;
        for (int law = 0; law <= LAW_MOST; law++) {
            runByLaw(law);
            int unequal = spread();
            if (unequal < least) {
                least = unequal;
                best = law;
            }
        }
        return best;
    }

    public int sham(int side, int s) {
        if (!Shelves.isShelf(s) || !now.isSide(side)) {
            return BELOW_ALL_SHAMS + refuse(BAD);
        }
        int trouble = shelves.rowTrouble(s);
        if (trouble != 0) {
            return BELOW_ALL_SHAMS + refuse(trouble);
        }
        if (!shelves.isRowBelow(s, now.things, WORTH_MOST + 1)) {
            return BELOW_ALL_SHAMS + refuse(BAD);
        }
        runByLaw(now.law);
        int inTruth = at(has, side);
        misled.know(now);
        for (int i = 0; i < now.things; i++) {
            put(misled.worths, side * THINGS_MOST + i, (int) shelves.elementOf(s, i));
        }
        misled.expectLaw(now, now.law);
        goOn(misled, side);
        return at(has, side) - inTruth;
    }

    // ---- BOOKS

    public int judge(int s, int n) {
        int trouble = bookTrouble(s, n, 0);
        return trouble != 0 ? refuse(trouble) : firstWrong(s, n, NONE);
    }

    public int stolen(int s, int n) {
        int trouble = bookTrouble(s, n, 1);
        if (trouble != 0) {
            return refuse(trouble);
        }
        for (int i = 0; i < n; i++) {
            if (firstWrong(s, n, i) == NONE) {
                return i;
            }
        }
        return NONE;
    }

    public int fits(int s, int n, int side) {
        int trouble = now.isSide(side) ? bookTrouble(s, n, 0) : BAD;
        if (trouble != 0) {
            return refuse(trouble);
        }
        if (firstWrong(s, n, NONE) != NONE) {
            return refuse(STUCK);
        }
        mind.know(now);
        mind.expectLaw(now, now.law);
        int fitting = (1 << LOOKS + 1) - 1;
        int left = mind.start;
        for (int i = 0; i < n; i++) {
            long told = shelves.elementOf(s, i);
            int thing = (int) (told % 10);
            if (told / 10 == side) {
                fitting &= mind.bentsTaking(side, thing, left);
            }
            left = without(left, thing);
        }
        return fitting;
    }

    public int books(int s, int n) {
        int trouble = bookTrouble(s, n, 0);
        if (trouble != 0) {
            return refuse(trouble);
        }
        if (firstWrong(s, n, NONE) != NONE || n > TURN_MOST - now.turn) {
            return refuse(STUCK);
        }
        for (int i = 0; i < n; i++) {
            now.takeInTruth((int) (shelves.elementOf(s, i) % 10));
        }
        return n;
    }

    // ---- In truth

    public int trades(int what) {
        if (what < 0 || what > 1) {
            return refuse(BAD);
        }
        int count = 0;
        int most = 0;
        int best = STUCK;
        for (int one = 0; one < now.things; one++) {
            for (int other = one + 1; other < now.things; other++) {
                int gain = now.gainOfTrade(one, other);
                count += gain > 0 ? 1 : 0;
                if (gain > most) {
                    most = gain;
                    best = 10 * one + other;
                }
            }
        }
        if (what == 0) {
            return count;
        }
        return count == 0 ? refuse(STUCK) : best;
    }

    public int swap(int thing, int other) {
        if (!now.isThing(thing) || !now.isThing(other) || thing == other) {
            return refuse(BAD);
        }
        int owner = now.ownerOf(thing);
        int otherOwner = now.ownerOf(other);
        if (owner == otherOwner) {
            return 0;
        }
        if (owner == NONE || otherOwner == NONE) {
            return refuse(STUCK);
        }
        put(now.owners, thing, otherOwner);
        put(now.owners, other, owner);
        return 1;
    }

    public int pick(int thing) {
        if (!now.isThing(thing)) {
            return refuse(BAD);
        }
        if (now.ownerOf(thing) != NONE || now.turn >= TURN_MOST) {
            return refuse(STUCK);
        }
        now.takeInTruth(thing);
        return now.ownerOf(thing);
    }

    public int goes(int n) {
        if (n < 1 || n > THINGS_MOST) {
            return refuse(BAD);
        }
        if (n > TURN_MOST - now.turn) {
            return refuse(STUCK);
        }
        runByLaw(now.law);
        int picks = Math.min(n, takenCount);
        for (int i = 0; i < picks; i++) {
            now.takeInTruth(at(taken, i));
        }
        return picks;
    }

    public int again() {
        int gone = 0;
        for (int i = 0; i < now.things; i++) {
            gone += now.ownerOf(i) == NONE ? 0 : 1;
            put(now.owners, i, NONE);
        }
        now.turn = 0;
        return gone;
    }

    public int deal(int n) {
        if (n < 1 || n > THINGS_MOST) {
            return refuse(BAD);
        }
        int dealt = Math.min(n, THINGS_MOST - now.things);
        for (int i = 0; i < dealt; i++) {
            int a = now.draw(WORTH_MOST + 1);
            int b = now.draw(WORTH_MOST + 1);
            int c = now.sides > 2 ? now.draw(WORTH_MOST + 1) : 0;
            now.addThing(a, b, c);
        }
        return dealt;
    }

    public int seed(int v) {
        int ahead = now.seed;
        now.seed = v;
        return ahead;
    }

    public int image() {
        kept.become(now);
        isKept = true;
        return 1;
    }

    public int back() {
        if (!isKept) {
            return refuse(STUCK);
        }
        now.become(kept);
        return 1;
    }

    public int status(int what) {
        switch (what) {
            case 0: return now.sides;
            case 1: return now.things;
            case 2: return now.setOf(NONE);
            case 3: return now.law;
            case 4: return now.turn;
            case 5: return now.orderSize;
            case 6: return spreadNow();
            case 7: return tape.size;
            case 8: return now.seed;
            case 9: return shelves.countHeld();
            default: return what >= 12 && what <= 16 ? at(refusals, what - 12) : NONE;
        }
    }

    // ---- What the calls share

    private int refuse(int number) {
        int place = BAD - number;
        put(refusals, place, at(refusals, place) + 1);
        return number;
    }

    private static int at(int[] row, int i) {
        return row != null && i >= 0 && i < row.length ? row[i] : 0;
    }

    private static void put(int[] row, int i, int v) {
        if (row != null && i >= 0 && i < row.length) {
            row[i] = v;
        }
    }

    private static void copyAll(int[] from, int[] to) {
        if (from != null && to != null) {
            for (int i = 0; i < from.length && i < to.length; i++) {
                to[i] = from[i];
            }
        }
    }

    private static boolean isIn(int set, int thing) {
        return (set >> thing & 1) != 0;
    }

    private static int without(int set, int thing) {
        return set & ~(1 << thing);
    }

    private static long power(long base, int exponent) {
        long product = 1;
        for (int i = 0; i < exponent; i++) {
            product *= base;
        }
        return product;
    }

    private static boolean isWorth(int v) {
        return v >= 0 && v <= WORTH_MOST;
    }

    private static boolean isLaw(int v) {
        return v >= 0 && v <= LAW_MOST;
    }

    private static boolean isBent(int v) {
        return v >= PICK && v <= LOOKS;
    }

    private static boolean isUnder(int bent, int wanted) {
        if (bent == wanted || wanted == PICK) {
            return true;
        }
        return wanted == BEST && (bent == SPOILS || bent == WAITS || bent == LOOKS);
    }

    /** What a SIDE would take at this TURN if it were its own; NONE if nothing is LEFT. */
    private int wouldTake(int side, int bent) {
        mind.know(now);
        mind.expectLaw(now, now.law);
        return mind.choose(side, bent, mind.start);
    }

    private void runByLaw(int law) {
        mind.know(now);
        mind.expectLaw(now, law);
        goOn(mind, NONE);
    }

    /** A RUN: all choose by what others know, but one SIDE (or NONE) by what is true. */
    private void goOn(Mind others, int one) {
        for (int side = 0; side < SIDES_MOST; side++) {
            put(has, side, mind.owned(side));
        }
        int left = mind.start;
        takenCount = 0;
        for (int i = 0; i < THINGS_MOST && left != 0; i++) {
            int side = mind.moverWhen(left);
            Mind own = side == one ? mind : others;
            int thing = own.choose(side, own.bentOf(side), left);
            put(taken, i, thing);
            put(has, side, at(has, side) + mind.worthTo(side, thing));
            left = without(left, thing);
            takenCount = i + 1;
        }
    }

    /** THE GAME; the THING taken first in it. */
    private int playGame(int law) {
        mind.know(now);
        mind.expectLaw(now, law);
        int first = mind.lookAllAhead();
        for (int side = 0; side < SIDES_MOST; side++) {
            put(has, side, mind.owned(side) + mind.stillGets(side, mind.start));
        }
        return first;
    }

    /** Puts FAIREST into fair; how UNEQUAL it is. */
    private int findFairest(int picks) {
        mind.know(now);
        mind.expectNothing();
        long orders = power(now.sides, picks);
        int least = ABOVE_ALL;
        for (int number = 0; number < orders; number++) {
            if (!spellOrder(number, picks) || least == 0 && !isBefore(trial, fair, picks)) {
                continue;
            }
            mind.expectRow(trial, picks);
            goOn(mind, NONE);
            int unequal = spread();
            if (unequal < least || unequal == least && isBefore(trial, fair, picks)) {
                least = unequal;
                copyAll(trial, fair);
            }
        }
        return least;
    }

    /**
     * Puts a number's digits into trial; whether all SIDES have their share. The last turn is the greatest
     * digit, so that rows one after the other end alike, and Mind needn't look ahead anew for their ends.
     */
    private boolean spellOrder(int number, int picks) {
        int n = now.sides > 2 ? SIDES_MOST : 2;
        int rest = number;
        for (int i = 0; i < picks; i++) {
            put(trial, i, rest % n);
            rest = rest / n;
        }
        int share = picks / n;
        int shareOfSome = picks % n == 0 ? share : share + 1;
        for (int side = 0; side < n; side++) {
            int count = 0;
            for (int i = 0; i < picks; i++) {
                count += at(trial, i) == side ? 1 : 0;
            }
            if (count < share || count > shareOfSome) {
                return false;
            }
        }
        return true;
    }

    private static boolean isBefore(int[] row, int[] other, int n) {
        for (int i = 0; i < n; i++) {
            if (at(row, i) != at(other, i)) {
                return at(row, i) < at(other, i);
            }
        }
        return false;
    }

    /** UNEQUAL of what is in has. */
    private int spread() {
        int most = at(has, 0);
        int least = most;
        for (int side = 1; side < now.sides; side++) {
            most = Math.max(most, at(has, side));
            least = Math.min(least, at(has, side));
        }
        return most - least;
    }

    private int spreadNow() {
        for (int side = 0; side < SIDES_MOST; side++) {
            put(has, side, now.hasNow(side));
        }
        return spread();
    }

    /** 0, or the refusal of a BOOK that can't be read. */
    private int bookTrouble(int s, int n, int least) {
        if (!Shelves.isShelf(s) || n < least || n > THINGS_MOST) {
            return BAD;
        }
        int trouble = shelves.rowTrouble(s);
        if (trouble != 0) {
            return trouble;
        }
        return n > shelves.sizeOf(s) ? BAD : 0;
    }

    /** WRONG of a BOOK in which one pick (or NONE) is passed over as if it weren't there. */
    private int firstWrong(int s, int n, int passed) {
        int left = now.setOf(NONE);
        int turn = now.turn;
        for (int i = 0; i < n; i++) {
            if (i == passed) {
                continue;
            }
            long told = shelves.elementOf(s, i);
            if (told < 0 || told / 10 != now.sideAt(now.law, turn)) {
                return i;
            }
            int thing = (int) (told % 10);
            if (!isIn(left, thing)) {
                return i;
            }
            left = without(left, thing);
            turn++;
        }
        return NONE;
    }

    /** All that an image keeps. */
    private static final class Estate {
        // As many as an int has in base 2.
        private static final int DIGITS_OF_ALL = 31;

        int sides = 2;
        int things;
        int law;
        int turn;
        int seed = 1;
        int orderSize = 1;
        final int[] order = new int[ORDER_MOST];
        final int[] bents = new int[SIDES_MOST];
        final int[] owners = new int[THINGS_MOST];
        final int[] worths = new int[SIDES_MOST * THINGS_MOST];

        void become(Estate other) {
            if (other != null) {
                sides = other.sides;
                things = other.things;
                law = other.law;
                turn = other.turn;
                seed = other.seed;
                orderSize = other.orderSize;
                copyAll(other.order, order);
                copyAll(other.bents, bents);
                copyAll(other.owners, owners);
                copyAll(other.worths, worths);
            }
        }

        boolean isSide(int side) {
            return side >= 0 && side < sides;
        }

        boolean isThing(int thing) {
            return thing >= 0 && thing < things;
        }

        int bentOf(int side) {
            return at(bents, side);
        }

        int ownerOf(int thing) {
            return isThing(thing) ? at(owners, thing) : NONE;
        }

        int worthTo(int side, int thing) {
            return isSide(side) && isThing(thing) ? at(worths, side * THINGS_MOST + thing) : 0;
        }

        /** The THINGS of an OWNER, as bits; of NONE those that are LEFT. */
        int setOf(int owner) {
            int set = 0;
            for (int thing = 0; thing < things; thing++) {
                if (at(owners, thing) == owner) {
                    set |= 1 << thing;
                }
            }
            return set;
        }

        int hasNow(int side) {
            int sum = 0;
            for (int thing = 0; thing < things; thing++) {
                if (at(owners, thing) == side) {
                    sum += worthTo(side, thing);
                }
            }
            return sum;
        }

        int sideAt(int byLaw, int t) {
            int n = sides > 2 ? SIDES_MOST : 2;
            switch (byLaw) {
                case 0:
                    return t % n;
                case 1:
                    int place = t % (2 * n);
                    return place < n ? place : 2 * n - 1 - place;
                case 2:
                    return digitSum(t, n) % n;
                default:
                    return orderSize > 0 ? at(order, t % orderSize) : 0;
            }
        }

        private static int digitSum(int t, int base) {
            int sum = 0;
            int rest = t;
            for (int i = 0; i < DIGITS_OF_ALL && rest > 0 && base > 1; i++) {
                sum += rest % base;
                rest = rest / base;
            }
            return sum;
        }

        void becomeSides(int n) {
            sides = n;
            orderSize = 1;
            put(order, 0, 0);
            for (int side = 0; side < SIDES_MOST; side++) {
                put(bents, side, PICK);
            }
        }

        void addThing(int a, int b, int c) {
            put(worths, things, a);
            put(worths, THINGS_MOST + things, b);
            put(worths, 2 * THINGS_MOST + things, c);
            put(owners, things, NONE);
            things++;
        }

        void takeInTruth(int thing) {
            put(owners, thing, sideAt(law, turn));
            turn++;
        }

        /** What both OWNERS together gain; 0 if they are one, or one of them gains nothing. */
        int gainOfTrade(int one, int other) {
            int owner = ownerOf(one);
            int otherOwner = ownerOf(other);
            if (owner == NONE || otherOwner == NONE || owner == otherOwner) {
                return 0;
            }
            int gain = worthTo(owner, other) - worthTo(owner, one);
            int otherGain = worthTo(otherOwner, one) - worthTo(otherOwner, other);
            return gain > 0 && otherGain > 0 ? gain + otherGain : 0;
        }

        int draw(int n) {
            seed = seed * 1103515245 + 12345;
            return n > 0 ? (seed >>> 16) % n : 0;
        }
    }

    /**
     * What choosers go by: WORTHS, BENTS and whose the turns are from now on. As one pick takes one
     * THING, the set of what is LEFT tells which turn it is.
     */
    private static final class Mind {
        final int[] worths = new int[SIDES_MOST * THINGS_MOST];
        private final int[] bents = new int[SIDES_MOST];
        private final int[] owned = new int[SIDES_MOST];
        private final int[] turns = new int[THINGS_MOST + RIVAL_WITHIN];
        private int turnCount;
        int start;
        private int startCount;
        // By SIDE and set of THINGS LEFT: the WORTH that the SIDE still gets (of no THINGS always 0).
        private final int[] still = new int[SIDES_MOST * SETS];
        // By SIDE: of how many THINGS are the greatest sets for which still holds what it gets if it LOOKS.
        private final int[] looked = new int[SIDES_MOST];

        void know(Estate estate) {
            if (estate != null) {
                copyAll(estate.worths, worths);
                copyAll(estate.bents, bents);
                for (int side = 0; side < SIDES_MOST; side++) {
                    put(owned, side, estate.hasNow(side));
                }
                start = estate.setOf(NONE);
                startCount = Integer.bitCount(start);
            }
        }

        void expectLaw(Estate estate, int law) {
            if (estate != null) {
                for (int i = 0; i < turns.length; i++) {
                    turns[i] = estate.sideAt(law, estate.turn + i);
                }
                turnCount = turns.length;
                forgetLooks();
            }
        }

        void expectNothing() {
            turnCount = 0;
            forgetLooks();
        }

        /** What is found for a set asks for as many turns as it has THINGS, so the end that rows share keeps it. */
        void expectRow(int[] row, int n) {
            int shared = 0;
            while (shared < n && turnCount == n && at(row, n - 1 - shared) == at(turns, n - 1 - shared)) {
                shared++;
            }
            for (int side = 0; side < SIDES_MOST; side++) {
                put(looked, side, Math.min(shared, at(looked, side)));
            }
            copyAll(row, turns);
            turnCount = n;
        }

        private void forgetLooks() {
            for (int side = 0; side < SIDES_MOST; side++) {
                put(looked, side, 0);
            }
        }

        int owned(int side) {
            return at(owned, side);
        }

        int bentOf(int side) {
            return at(bents, side);
        }

        int worthTo(int side, int thing) {
            int place = side * THINGS_MOST + thing;
            return place >= 0 && place < worths.length ? worths[place] : 0;
        }

        int stillGets(int side, int left) {
            int place = side * SETS + left;
            return place >= 0 && place < still.length ? still[place] : 0;
        }

        private int turnWhen(int left) {
            return startCount - Integer.bitCount(left);
        }

        int moverWhen(int left) {
            return at(turns, turnWhen(left));
        }

        int rivalOf(int side, int turn) {
            int end = Math.min(turnCount, turn + RIVAL_WITHIN + 1);
            for (int i = turn + 1; i < end; i++) {
                if (at(turns, i) != side) {
                    return at(turns, i);
                }
            }
            return NONE;
        }

        int choose(int side, int bent, int left) {
            if (bent != LOOKS) {
                return chooseBlind(side, bent, left);
            }
            lookAhead(side, Integer.bitCount(left) - 1);
            return farthest(side, left);
        }

        /** The BENTS (bits) by which a SIDE would take this THING of what is LEFT. */
        int bentsTaking(int side, int thing, int left) {
            int set = 0;
            for (int bent = PICK; bent <= LOOKS; bent++) {
                if (choose(side, bent, left) == thing) {
                    set |= 1 << bent;
                }
            }
            return set;
        }

        private int chooseBlind(int side, int bent, int left) {
            switch (bent) {
                case PICK:
                    return first(left);
                case LASTS:
                    return last(left);
                case SPOILS:
                    int envied = rivalOf(side, turnWhen(left));
                    return greatest(envied == NONE ? side : envied, side, left);
                case WAITS:
                    int rival = rivalOf(side, turnWhen(left));
                    boolean waits = rival != NONE && Integer.bitCount(left) > 1;
                    return greatest(side, side, waits ? without(left, lastLeast(rival, left)) : left);
                default:
                    return greatest(side, side, left);
            }
        }

        private static int first(int left) {
            for (int thing = 0; thing < THINGS_MOST; thing++) {
                if (isIn(left, thing)) {
                    return thing;
                }
            }
            return NONE;
        }

        private static int last(int left) {
            for (int thing = THINGS_MOST - 1; thing >= 0; thing--) {
                if (isIn(left, thing)) {
                    return thing;
                }
            }
            return NONE;
        }

        /** That of the greatest WORTH to one SIDE, of several to another, of several the first. */
        private int greatest(int side, int second, int left) {
            int most = -1;
            int best = NONE;
            for (int thing = 0; thing < THINGS_MOST; thing++) {
                if (isIn(left, thing)) {
                    int rank = worthTo(side, thing) * (WORTH_MOST + 1) + worthTo(second, thing);
                    if (rank > most) {
                        most = rank;
                        best = thing;
                    }
                }
            }
            return best;
        }

        private int lastLeast(int side, int left) {
            int least = ABOVE_ALL;
            int found = NONE;
            for (int thing = 0; thing < THINGS_MOST; thing++) {
                if (isIn(left, thing) && worthTo(side, thing) <= least) {
                    least = worthTo(side, thing);
                    found = thing;
                }
            }
            return found;
        }

        /** That by which a SIDE gets most in the end, as still has it for all smaller sets. */
        private int farthest(int side, int left) {
            int most = -1;
            int best = NONE;
            for (int thing = 0; thing < THINGS_MOST; thing++) {
                if (isIn(left, thing)) {
                    int all = worthTo(side, thing) + stillGets(side, without(left, thing));
                    if (all > most) {
                        most = all;
                        best = thing;
                    }
                }
            }
            return best;
        }

        /**
         * Fills still for one SIDE that LOOKS and all sets of so many THINGS and fewer. Taking a THING makes a
         * set's number smaller, so what is asked for is there.
         */
        private void lookAhead(int side, int count) {
            int known = at(looked, side);
            for (int set = 1; set <= start && set < SETS && known < count; set++) {
                int size = Integer.bitCount(set);
                if ((set & ~start) == 0 && size > known && size <= count) {
                    int mover = moverWhen(set);
                    int bent = bentOf(mover);
                    int thing = mover == side ? farthest(side, set)
                            : chooseBlind(mover, bent == LOOKS ? BEST : bent, set);
                    int gain = mover == side ? worthTo(side, thing) : 0;
                    put(still, side * SETS + set, gain + stillGets(side, without(set, thing)));
                }
            }
            put(looked, side, Math.max(known, count));
        }

        /** Fills still as in THE GAME; the THING taken first. */
        int lookAllAhead() {
            int thing = NONE;
            for (int set = 1; set <= start && set < SETS; set++) {
                if ((set & ~start) == 0) {
                    int mover = moverWhen(set);
                    thing = farthest(mover, set);
                    for (int side = 0; side < SIDES_MOST; side++) {
                        int gain = side == mover ? worthTo(side, thing) : 0;
                        put(still, side * SETS + set, gain + stillGets(side, without(set, thing)));
                    }
                }
            }
            return thing;
        }
    }

    /** What each SHELF holds: NONE, a ROW's SORT, or 10 and the number of a BENT. */
    private static final class Shelves {
        private static final int BYTES = 0;
        private static final int SHORTS = 1;
        private static final int INTS = 2;
        private static final int LONGS = 3;
        private static final int BOOLEANS = 4;
        private static final int BENTS_FROM = 10;

        private final int[] kinds = {NONE, NONE, NONE, NONE, NONE, NONE, NONE, NONE};
        private final int[] sizes = new int[SHELVES_MOST];
        private final int[] bentSides = new int[SHELVES_MOST];
        private final long[] elements = new long[SHELVES_MOST * ROW_MOST];

        static boolean isShelf(int s) {
            return s >= 0 && s < SHELVES_MOST;
        }

        static boolean isSort(int sort) {
            return sort >= BYTES && sort <= BOOLEANS;
        }

        int kindOf(int s) {
            return isShelf(s) ? at(kinds, s) : NONE;
        }

        int sizeOf(int s) {
            return isSort(kindOf(s)) ? at(sizes, s) : 0;
        }

        int bentOf(int s) {
            return kindOf(s) - BENTS_FROM;
        }

        int sideOfBent(int s) {
            return at(bentSides, s);
        }

        int countHeld() {
            int count = 0;
            for (int s = 0; s < SHELVES_MOST; s++) {
                count += kindOf(s) == NONE ? 0 : 1;
            }
            return count;
        }

        /** 0, or the refusal of a SHELF that should hold a ROW. */
        int rowTrouble(int s) {
            if (kindOf(s) == NONE) {
                return NOTHING;
            }
            return isSort(kindOf(s)) ? 0 : OTHER;
        }

        int bentTrouble(int s) {
            if (kindOf(s) == NONE) {
                return NOTHING;
            }
            return isSort(kindOf(s)) ? OTHER : 0;
        }

        /** 0, or the refusal of two SHELVES that should hold ROWS of one SORT; OTHER goes before NOTHING. */
        int pairTrouble(int p, int q) {
            int trouble = rowTrouble(p);
            int otherTrouble = rowTrouble(q);
            if (trouble == OTHER || otherTrouble == OTHER) {
                return OTHER;
            }
            if (trouble == NOTHING || otherTrouble == NOTHING) {
                return NOTHING;
            }
            return kindOf(p) == kindOf(q) ? 0 : OTHER;
        }

        void putNothing(int s) {
            put(kinds, s, NONE);
        }

        void putBent(int s, int side, int bent) {
            put(kinds, s, BENTS_FROM + bent);
            put(bentSides, s, side);
        }

        void putRow(int s, int sort, int n) {
            put(kinds, s, sort);
            put(sizes, s, n);
            for (int i = 0; i < n; i++) {
                putElement(s, i, 0);
            }
        }

        long elementOf(int s, int i) {
            int place = s * ROW_MOST + i;
            boolean stands = i >= 0 && i < sizeOf(s) && place >= 0 && place < elements.length;
            return stands ? elements[place] : 0;
        }

        void putElement(int s, int i, long v) {
            int place = s * ROW_MOST + i;
            if (i >= 0 && i < sizeOf(s) && place >= 0 && place < elements.length) {
                elements[place] = lowestBits(kindOf(s), v);
            }
        }

        private static long lowestBits(int sort, long v) {
            switch (sort) {
                case BYTES: return (byte) v;
                case SHORTS: return (short) v;
                case INTS: return (int) v;
                case LONGS: return v;
                default: return v != 0 ? 1 : 0;
            }
        }

        /** Backwards if the places lie further on, so that what is read is as it was even in one ROW. */
        void copyElements(int p, int q, int i, int j, int n) {
            for (int k = 0; k < n; k++) {
                int step = i < j ? n - 1 - k : k;
                putElement(q, j + step, elementOf(p, i + step));
            }
        }

        /** Whether the first n elements are there, and each is a number from 0 on below the bound. */
        boolean isRowBelow(int s, int n, int bound) {
            if (n > sizeOf(s)) {
                return false;
            }
            for (int i = 0; i < n; i++) {
                long v = elementOf(s, i);
                if (v < 0 || v >= bound) {
                    return false;
                }
            }
            return true;
        }
    }

    /** THE TAPE, and what reads an ESTATE from it. */
    private static final class Tape {
        private static final int END = 0;
        private static final int WORD = 1;
        private static final int NUMBER = 2;
        private static final int SIGN = 3;
        private static final int BLANK = 4;
        private static final int STRANGE = 5;
        private static final int DIGITS_MOST = 4;
        private static final int TOLD_TURN_MOST = 9999;

        final int[] bytes = new int[TAPE_MOST];
        int size;
        int fault;
        // The TOKEN that is looked at: its kind, its first byte's place, and the place behind it.
        private int kind;
        private int begin;
        private int place;

        /** Lets a draft become what is told; how many STATEMENTS, of no meaning if there is a fault. */
        int readEstate(Estate draft) {
            fault = NONE;
            place = 0;
            int statements = 0;
            boolean more = true;
            for (int i = 0; i <= size && more && fault == NONE; i++) {
                nextToken();
                readStatement(draft);
                statements++;
                more = kind == SIGN;
            }
            if (fault == NONE && kind != END) {
                fault = begin;
            }
            return statements;
        }

        private int kindAt(int i) {
            if (i >= size) {
                return END;
            }
            int letter = at(bytes, i);
            if (letter >= 'a' && letter <= 'z') {
                return WORD;
            }
            if (letter >= '0' && letter <= '9') {
                return NUMBER;
            }
            if (letter == ';') {
                return SIGN;
            }
            return letter == ' ' ? BLANK : STRANGE;
        }

        private void nextToken() {
            while (place < size && kindAt(place) == BLANK) {
                place++;
            }
            begin = place;
            kind = kindAt(place);
            boolean isLong = kind == WORD || kind == NUMBER;
            if (kind != END) {
                place++;
            }
            while (isLong && place < size && kindAt(place) == kind) {
                place++;
            }
        }

        private boolean isWord(String word) {
            if (kind != WORD || word == null || word.length() != place - begin) {
                return false;
            }
            for (int i = 0; i < word.length(); i++) {
                if (word.charAt(i) != at(bytes, begin + i)) {
                    return false;
                }
            }
            return true;
        }

        /** The NUMBER that is looked at, if it may be; the next TOKEN is looked at then. */
        private int readNumber(int least, int most) {
            if (fault != NONE) {
                return NONE;
            }
            int number = 0;
            boolean stands = kind == NUMBER && place - begin <= DIGITS_MOST;
            for (int i = begin; stands && i < place; i++) {
                number = 10 * number + at(bytes, i) - '0';
            }
            if (!stands || number < least || number > most) {
                fault = begin;
                return NONE;
            }
            nextToken();
            return number;
        }

        private void readStatement(Estate draft) {
            if (draft == null) {
                fault = begin;
            } else if (isWord("sides") && draft.things == 0) {
                readSides(draft);
            } else if (isWord("thing") && draft.things < THINGS_MOST) {
                readThing(draft);
            } else if (isWord("law")) {
                readLaw(draft);
            } else if (isWord("order")) {
                readOrder(draft);
            } else if (isWord("bent")) {
                readBent(draft);
            } else if (isWord("turn")) {
                readTurn(draft);
            } else if (isWord("owns")) {
                readOwns(draft);
            } else {
                fault = begin;
            }
        }

        private void readSides(Estate draft) {
            nextToken();
            int n = readNumber(2, SIDES_MOST);
            if (fault == NONE) {
                draft.becomeSides(n);
            }
        }

        private void readThing(Estate draft) {
            nextToken();
            int a = readNumber(0, WORTH_MOST);
            int b = readNumber(0, WORTH_MOST);
            int c = draft.sides > 2 ? readNumber(0, WORTH_MOST) : 0;
            if (fault == NONE) {
                draft.addThing(a, b, c);
            }
        }

        private void readLaw(Estate draft) {
            nextToken();
            int v = readNumber(0, LAW_MOST);
            if (fault == NONE) {
                draft.law = v;
            }
        }

        private void readOrder(Estate draft) {
            nextToken();
            boolean more = true;
            for (int i = 0; i < ORDER_MOST && more; i++) {
                put(draft.order, i, readNumber(0, draft.sides - 1));
                draft.orderSize = i + 1;
                more = fault == NONE && kind == NUMBER;
            }
        }

        private void readBent(Estate draft) {
            nextToken();
            int side = readNumber(0, draft.sides - 1);
            int bent = readNumber(PICK, LOOKS);
            if (fault == NONE) {
                put(draft.bents, side, bent);
            }
        }

        private void readTurn(Estate draft) {
            nextToken();
            int v = readNumber(0, TOLD_TURN_MOST);
            if (fault == NONE) {
                draft.turn = v;
            }
        }

        private void readOwns(Estate draft) {
            nextToken();
            int side = readNumber(0, draft.sides - 1);
            int thing = readNumber(0, draft.things - 1);
            if (fault == NONE) {
                put(draft.owners, thing, side);
            }
        }
    }
}
