import java.util.ArrayList;
import java.util.Arrays;
import java.util.List;
import java.util.regex.Matcher;
import java.util.regex.Pattern;

/**
 * The document once more, in the plainest and slowest way: everything tried out, nothing kept in
 * tables. ModelTest compares the class with it.
 */
final class PlainModel {
    static final int NONE = -1;

    /** Whose the turns from now on are; null behind the end. */
    interface Turns {
        Integer at(int k);
    }

    static final class State {
        int sides = 2;
        List<int[]> worths = new ArrayList<>();
        List<Integer> owners = new ArrayList<>();
        int[] bents = new int[3];
        List<Integer> order = new ArrayList<>(List.of(0));
        int law;
        int turn;
        int seed = 1;

        State twin() {
            State t = new State();
            t.sides = sides;
            for (int[] w : worths) {
                t.worths.add(w.clone());
            }
            t.owners = new ArrayList<>(owners);
            t.bents = bents.clone();
            t.order = new ArrayList<>(order);
            t.law = law;
            t.turn = turn;
            t.seed = seed;
            return t;
        }
    }

    static final class Shelf {
        int sort;
        long[] row;
        int side;
        int bent = NONE;
    }

    State st = new State();
    State kept;
    StringBuilder tape = new StringBuilder();
    Shelf[] shelves = new Shelf[8];
    int[] refusals = new int[7];

    int no(int number) {
        refusals[-number]++;
        return number;
    }

    // ---- what the terms say

    int whoseTurn(State s, int law, long t) {
        int n = s.sides;
        if (law == 0) {
            return (int) (t % n);
        }
        if (law == 1) {
            List<Integer> round = new ArrayList<>();
            for (int i = 0; i < n; i++) {
                round.add(i);
            }
            for (int i = n - 1; i >= 0; i--) {
                round.add(i);
            }
            return round.get((int) (t % round.size()));
        }
        if (law == 2) {
            int sum = 0;
            for (char c : Long.toString(t, n).toCharArray()) {
                sum += c - '0';
            }
            return sum % n;
        }
        return s.order.get((int) (t % s.order.size()));
    }

    Turns byLaw(State s, int law) {
        return k -> whoseTurn(s, law, (long) s.turn + k);
    }

    int rivalOf(Turns turns, int k, int side) {
        for (int j = k + 1; j <= k + 24; j++) {
            Integer other = turns.at(j);
            if (other == null) {
                return NONE;
            }
            if (other != side) {
                return other;
            }
        }
        return NONE;
    }

    List<Integer> left(List<Integer> owners) {
        List<Integer> found = new ArrayList<>();
        for (int i = 0; i < owners.size(); i++) {
            if (owners.get(i) == NONE) {
                found.add(i);
            }
        }
        return found;
    }

    static int value(List<int[]> worths, int thing, int side) {
        return worths.get(thing)[side];
    }

    /** The first of those with the greatest worth to a side. */
    int greatest(List<int[]> worths, List<Integer> among, int side) {
        int best = among.get(0);
        for (int t : among) {
            if (value(worths, t, side) > value(worths, best, side)) {
                best = t;
            }
        }
        return best;
    }

    int choose(List<int[]> worths, int[] bents, List<Integer> owners, Turns turns, int k, int side, int bent) {
        List<Integer> left = left(owners);
        if (left.isEmpty()) {
            return NONE;
        }
        int rival = rivalOf(turns, k, side);
        if (bent == 0) {
            return left.get(0);
        }
        if (bent == 4) {
            return left.get(left.size() - 1);
        }
        if (bent == 2 && rival != NONE) {
            int top = value(worths, greatest(worths, left, rival), rival);
            List<Integer> envied = new ArrayList<>();
            for (int t : left) {
                if (value(worths, t, rival) == top) {
                    envied.add(t);
                }
            }
            return greatest(worths, envied, side);
        }
        if (bent == 3 && rival != NONE && left.size() > 1) {
            int low = left.get(0);
            for (int t : left) {
                if (value(worths, t, rival) <= value(worths, low, rival)) {
                    low = t;
                }
            }
            left.remove(Integer.valueOf(low));
            return greatest(worths, left, side);
        }
        if (bent == 5) {
            int best = NONE;
            int most = -1;
            for (int t : left) {
                List<Integer> then = new ArrayList<>(owners);
                then.set(t, side);
                int end = endOfLooks(worths, bents, then, turns, k + 1, side);
                if (end > most) {
                    most = end;
                    best = t;
                }
            }
            return best;
        }
        return greatest(worths, left, side);
    }

    int endOfLooks(List<int[]> worths, int[] bents, List<Integer> owners, Turns turns, int k, int side) {
        List<Integer> left = left(owners);
        if (left.isEmpty()) {
            return hasOf(worths, owners, side);
        }
        int mover = turns.at(k);
        List<Integer> tries = left;
        if (mover != side) {
            int bent = bents[mover] == 5 ? 1 : bents[mover];
            tries = List.of(choose(worths, bents, owners, turns, k, mover, bent));
        }
        int most = -1;
        for (int t : tries) {
            List<Integer> then = new ArrayList<>(owners);
            then.set(t, mover);
            most = Math.max(most, endOfLooks(worths, bents, then, turns, k + 1, side));
        }
        return most;
    }

    int hasOf(List<int[]> worths, List<Integer> owners, int side) {
        int sum = 0;
        for (int t = 0; t < owners.size(); t++) {
            if (owners.get(t) == side) {
                sum += value(worths, t, side);
            }
        }
        return sum;
    }

    int unequalOf(List<Integer> owners) {
        int[] all = new int[st.sides];
        for (int s = 0; s < st.sides; s++) {
            all[s] = hasOf(st.worths, owners, s);
        }
        Arrays.sort(all);
        return all[all.length - 1] - all[0];
    }

    /** A RUN: owners at its end; the things taken come into the list. */
    List<Integer> runOf(Turns turns, List<Integer> taken, List<int[]> told, int one) {
        List<Integer> owners = new ArrayList<>(st.owners);
        for (int k = 0; !left(owners).isEmpty(); k++) {
            int side = turns.at(k);
            int t = choose(side == one ? st.worths : told, st.bents, owners, turns, k, side, st.bents[side]);
            owners.set(t, side);
            taken.add(t);
        }
        return owners;
    }

    List<Integer> runOf(Turns turns, List<Integer> taken) {
        return runOf(turns, taken, st.worths, NONE);
    }

    /** THE GAME: owners at its end; the first thing comes into the list. */
    List<Integer> gameOf(Turns turns, List<Integer> owners, int k, List<Integer> first) {
        List<Integer> best = owners;
        int most = -1;
        for (int t : left(owners)) {
            List<Integer> then = new ArrayList<>(owners);
            then.set(t, turns.at(k));
            List<Integer> end = gameOf(turns, then, k + 1, new ArrayList<>());
            int all = hasOf(st.worths, end, turns.at(k));
            if (all > most) {
                most = all;
                best = end;
                first.clear();
                first.add(t);
            }
        }
        return best;
    }

    int leastUnequal;
    List<Integer> fairestRow;

    void tryOrders(List<Integer> row, int picks) {
        if (row.size() < picks) {
            for (int s = 0; s < st.sides; s++) {
                List<Integer> longer = new ArrayList<>(row);
                longer.add(s);
                tryOrders(longer, picks);
            }
            return;
        }
        int[] counts = new int[st.sides];
        for (int s : row) {
            counts[s]++;
        }
        Arrays.sort(counts);
        if (counts[st.sides - 1] - counts[0] > 1) {
            return;
        }
        int u = unequalOf(runOf(k -> k < row.size() ? row.get(k) : null, new ArrayList<>()));
        if (fairestRow == null || u < leastUnequal) {
            leastUnequal = u;
            fairestRow = row;
        }
    }

    // ---- calls

    boolean shelf(int s) {
        return s >= 0 && s < 8;
    }

    boolean side(int s) {
        return s >= 0 && s < st.sides;
    }

    boolean isThing(int t) {
        return t >= 0 && t < st.worths.size();
    }

    boolean isLaw(int v) {
        return v >= 0 && v <= 3;
    }

    boolean isBent(int v) {
        return v >= 0 && v <= 5;
    }

    boolean isRow(int s) {
        return shelves[s] != null && shelves[s].row != null;
    }

    int rowNo(int s) {
        return shelves[s] == null ? -4 : isRow(s) ? 0 : -3;
    }

    int row(int s, int sort, int n) {
        if (!shelf(s) || sort < 0 || sort > 4 || n < 0 || n > 40) {
            return no(-2);
        }
        shelves[s] = new Shelf();
        shelves[s].sort = sort;
        shelves[s].row = new long[n];
        return 1;
    }

    long cut(int sort, long v) {
        long[] all = {(byte) v, (short) v, (int) v, v, v == 0 ? 0 : 1};
        return all[sort];
    }

    int set(int s, int i, long v) {
        if (!shelf(s)) {
            return no(-2);
        }
        if (rowNo(s) != 0) {
            return no(rowNo(s));
        }
        if (i < 0 || i >= shelves[s].row.length) {
            return no(-2);
        }
        shelves[s].row[i] = cut(shelves[s].sort, v);
        return 1;
    }

    int copy(int p, int q, int i, int j, int n) {
        if (!shelf(p) || !shelf(q)) {
            return no(-2);
        }
        if (rowNo(p) == -3 || rowNo(q) == -3 || isRow(p) && isRow(q) && shelves[p].sort != shelves[q].sort) {
            return no(-3);
        }
        if (rowNo(p) != 0 || rowNo(q) != 0) {
            return no(-4);
        }
        if (i < 0 || j < 0 || n < 0 || (long) i + n > shelves[p].row.length
                || (long) j + n > shelves[q].row.length) {
            return no(-2);
        }
        System.arraycopy(shelves[p].row, i, shelves[q].row, j, n);
        return n;
    }

    long element(int s, int i) {
        return shelf(s) && isRow(s) && i >= 0 && i < shelves[s].row.length ? shelves[s].row[i] : 0;
    }

    int holds(int s) {
        if (!shelf(s) || shelves[s] == null) {
            return NONE;
        }
        return isRow(s) ? shelves[s].sort : 10 + shelves[s].bent;
    }

    int show(int s, int side) {
        if (!shelf(s) || side != NONE && !side(side)) {
            return no(-2);
        }
        shelves[s] = null;
        if (side != NONE) {
            shelves[s] = new Shelf();
            shelves[s].side = side;
            shelves[s].bent = st.bents[side];
        }
        return 1;
    }

    int says(int s, int bent) {
        if (!shelf(s) || !isBent(bent)) {
            return no(-2);
        }
        if (shelves[s] == null) {
            return no(-4);
        }
        int[][] lines = {{0}, {1, 0}, {2, 1, 0}, {3, 1, 0}, {4, 0}, {5, 1, 0}};
        if (isRow(s) || Arrays.stream(lines[shelves[s].bent]).noneMatch(b -> b == bent)) {
            return no(-3);
        }
        if (!side(shelves[s].side)) {
            return no(-2);
        }
        return wouldTake(shelves[s].side, shelves[s].bent);
    }

    int wouldTake(int side, int bent) {
        Turns turns = byLaw(st, st.law);
        return choose(st.worths, st.bents, st.owners, k -> k == 0 ? Integer.valueOf(side) : turns.at(k), 0, side, bent);
    }

    int sides(int n) {
        if (n != 2 && n != 3) {
            return no(-2);
        }
        if (!st.worths.isEmpty()) {
            return no(-5);
        }
        int before = st.sides;
        sidesOf(st, n);
        return before;
    }

    static void sidesOf(State s, int n) {
        s.sides = n;
        s.bents = new int[3];
        s.order = new ArrayList<>(List.of(0));
    }

    int thing(int a, int b, int c) {
        for (int v : st.sides == 2 ? new int[] {a, b} : new int[] {a, b, c}) {
            if (v < 0 || v > 99) {
                return no(-2);
            }
        }
        if (st.worths.size() == 8) {
            return no(-6);
        }
        st.worths.add(new int[] {a, b, c});
        st.owners.add(NONE);
        return st.worths.size() - 1;
    }

    int worth(int side, int thing, int v) {
        if (!side(side) || !isThing(thing) || v < 0 || v > 99) {
            return no(-2);
        }
        int before = st.worths.get(thing)[side];
        st.worths.get(thing)[side] = v;
        return before;
    }

    int bent(int side, int bent) {
        if (!side(side) || !isBent(bent)) {
            return no(-2);
        }
        int before = st.bents[side];
        st.bents[side] = bent;
        return before;
    }

    int law(int v) {
        if (!isLaw(v)) {
            return no(-2);
        }
        int before = st.law;
        st.law = v;
        return before;
    }

    int order(int s, int n) {
        if (!shelf(s) || n < 1 || n > 12) {
            return no(-2);
        }
        if (rowNo(s) != 0) {
            return no(rowNo(s));
        }
        List<Integer> told = new ArrayList<>();
        for (int i = 0; i < n; i++) {
            long v = i < shelves[s].row.length ? shelves[s].row[i] : -1;
            if (v < 0 || v >= st.sides) {
                return no(-2);
            }
            told.add((int) v);
        }
        st.order = told;
        return n;
    }

    int turn(int v) {
        if (v < 0 || v > 1000000000) {
            return no(-2);
        }
        int before = st.turn;
        st.turn = v;
        return before;
    }

    int own(int thing, int side) {
        if (!isThing(thing) || side != NONE && !side(side)) {
            return no(-2);
        }
        return st.owners.set(thing, side);
    }

    int feed(int letter) {
        if (letter < 0 || letter > 255) {
            return no(-2);
        }
        if (tape.length() == 250) {
            return no(-6);
        }
        tape.append((char) letter);
        return tape.length();
    }

    int wipe() {
        int before = tape.length();
        tape.setLength(0);
        return before;
    }

    // A read ESTATE: the tokens with their places, then STATEMENT by STATEMENT.
    private static final Pattern TOKEN = Pattern.compile("[a-z]+|[0-9]+|.", Pattern.DOTALL);
    private List<String> tokens;
    private List<Integer> places;
    private int next;

    private static final class Fault extends Exception {
        private static final long serialVersionUID = 1L;
    }

    private String peek() {
        return next < tokens.size() ? tokens.get(next) : "";
    }

    private int numberIn(int low, int high) throws Fault {
        String t = peek();
        if (!t.matches("[0-9]{1,4}") || Integer.parseInt(t) < low || Integer.parseInt(t) > high) {
            throw new Fault();
        }
        next++;
        return Integer.parseInt(t);
    }

    private void need(boolean holds) throws Fault {
        if (!holds) {
            throw new Fault();
        }
    }

    private void statement(State s) throws Fault {
        switch (peek()) {
            case "sides" -> {
                need(s.worths.isEmpty());
                next++;
                sidesOf(s, numberIn(2, 3));
            }
            case "thing" -> {
                need(s.worths.size() < 8);
                next++;
                int[] w = new int[3];
                for (int i = 0; i < s.sides; i++) {
                    w[i] = numberIn(0, 99);
                }
                s.worths.add(w);
                s.owners.add(NONE);
            }
            case "law" -> {
                next++;
                s.law = numberIn(0, 3);
            }
            case "order" -> {
                next++;
                s.order = new ArrayList<>();
                do {
                    need(s.order.size() < 12);
                    s.order.add(numberIn(0, s.sides - 1));
                } while (peek().matches("[0-9]+"));
            }
            case "bent" -> {
                next++;
                int side = numberIn(0, s.sides - 1);
                s.bents[side] = numberIn(0, 5);
            }
            case "turn" -> {
                next++;
                s.turn = numberIn(0, 9999);
            }
            case "owns" -> {
                next++;
                int side = numberIn(0, s.sides - 1);
                s.owners.set(numberIn(0, s.worths.size() - 1), side);
            }
            default -> throw new Fault();
        }
    }

    int estate() {
        tokens = new ArrayList<>();
        places = new ArrayList<>();
        next = 0;
        Matcher m = TOKEN.matcher(tape);
        while (m.find()) {
            if (!m.group().equals(" ")) {
                tokens.add(m.group());
                places.add(m.start());
            }
        }
        places.add(tape.length());
        tape.setLength(0);
        State draft = st.twin();
        int count = 0;
        try {
            while (true) {
                statement(draft);
                count++;
                if (next == tokens.size()) {
                    st = draft;
                    return count;
                }
                need(peek().equals(";"));
                next++;
            }
        } catch (Fault f) {
            no(-2);
            return -20 - places.get(next);
        }
    }

    int thingOf(int thing, int what) {
        if (!isThing(thing) || what < 0 || what > st.sides) {
            return no(-2);
        }
        return what == 0 ? st.owners.get(thing) : st.worths.get(thing)[what - 1];
    }

    int sideOf(int side, int what) {
        if (!side(side) || what < 0 || what > 2) {
            return no(-2);
        }
        return what == 0 ? st.bents[side] : what == 1 ? hasOf(st.worths, st.owners, side) : bits(side);
    }

    int bits(int owner) {
        int set = 0;
        for (int t = 0; t < st.owners.size(); t++) {
            set += st.owners.get(t) == owner ? (int) Math.pow(2, t) : 0;
        }
        return set;
    }

    int whose(int law, int t) {
        return !isLaw(law) || t < 0 || t > 1000000000 ? no(-2) : whoseTurn(st, law, t);
    }

    int runs(int law, int m) {
        if (!isLaw(law) || m < 1 || m > 4000) {
            return no(-2);
        }
        int most = 0;
        for (int from = 0; from < m; from++) {
            int to = from;
            while (to < m && whoseTurn(st, law, to) == whoseTurn(st, law, from)) {
                to++;
                if (to - from > 5000) {
                    break;
                }
            }
            most = Math.max(most, to - from);
            if (to == m) {
                break;
            }
        }
        return most;
    }

    long powers(int law, int m, int p) {
        if (!isLaw(law) || m < 0 || m > 1000 || p < 0 || p > 3) {
            return -10000000000000L + no(-2);
        }
        long sum = 0;
        for (int t = 0; t < m; t++) {
            int s = whoseTurn(st, law, t);
            sum += (s == 0 ? 1 : s == 1 ? -1 : 0) * (long) Math.pow(t, p);
        }
        return sum;
    }

    int rival(int side) {
        return !side(side) ? no(-2) : rivalOf(byLaw(st, st.law), 0, side);
    }

    int takes(int side) {
        if (!side(side)) {
            return no(-2);
        }
        return left(st.owners).isEmpty() ? no(-5) : wouldTake(side, st.bents[side]);
    }

    int run(int law, int i) {
        if (!isLaw(law) || i < 0) {
            return no(-2);
        }
        List<Integer> taken = new ArrayList<>();
        runOf(byLaw(st, law), taken);
        return i >= taken.size() ? no(-5) : taken.get(i);
    }

    int gets(int law, int side) {
        return !isLaw(law) || !side(side) ? no(-2)
                : hasOf(st.worths, runOf(byLaw(st, law), new ArrayList<>()), side);
    }

    int unequal(int law) {
        return !isLaw(law) ? no(-2) : unequalOf(runOf(byLaw(st, law), new ArrayList<>()));
    }

    int game(int law, int side) {
        if (!isLaw(law) || side != NONE && !side(side)) {
            return no(-2);
        }
        List<Integer> end = gameOf(byLaw(st, law), st.owners, 0, new ArrayList<>());
        return side == NONE ? unequalOf(end) : hasOf(st.worths, end, side);
    }

    int opening(int law) {
        if (!isLaw(law)) {
            return no(-2);
        }
        List<Integer> first = new ArrayList<>();
        gameOf(byLaw(st, law), st.owners, 0, first);
        return first.isEmpty() ? no(-5) : first.get(0);
    }

    int fairest(int i) {
        if (i < NONE) {
            return no(-2);
        }
        int picks = left(st.owners).size();
        if (i >= picks) {
            return no(-5);
        }
        fairestRow = null;
        tryOrders(new ArrayList<>(), picks);
        return i == NONE ? leastUnequal : fairestRow.get(i);
    }

    int best() {
        int best = 0;
        for (int law = 1; law < 4; law++) {
            if (unequalOf(runOf(byLaw(st, law), new ArrayList<>()))
                    < unequalOf(runOf(byLaw(st, best), new ArrayList<>()))) {
                best = law;
            }
        }
        return best;
    }

    int sham(int side, int s) {
        if (!shelf(s) || !side(side)) {
            return -10000000 + no(-2);
        }
        if (rowNo(s) != 0) {
            return -10000000 + no(rowNo(s));
        }
        List<int[]> told = st.twin().worths;
        for (int t = 0; t < told.size(); t++) {
            long v = t < shelves[s].row.length ? shelves[s].row[t] : -1;
            if (v < 0 || v > 99) {
                return -10000000 + no(-2);
            }
            told.get(t)[side] = (int) v;
        }
        Turns turns = byLaw(st, st.law);
        return hasOf(st.worths, runOf(turns, new ArrayList<>(), told, side), side)
                - hasOf(st.worths, runOf(turns, new ArrayList<>()), side);
    }

    int bookNo(int s, int n, int low) {
        if (!shelf(s) || n < low || n > 8) {
            return -2;
        }
        if (rowNo(s) != 0) {
            return rowNo(s);
        }
        return n > shelves[s].row.length ? -2 : 0;
    }

    List<Long> bookOf(int s, int n) {
        List<Long> book = new ArrayList<>();
        for (int i = 0; i < n; i++) {
            book.add(shelves[s].row[i]);
        }
        return book;
    }

    int wrongOf(List<Long> book) {
        List<Integer> left = left(st.owners);
        for (int i = 0; i < book.size(); i++) {
            int mover = whoseTurn(st, st.law, (long) st.turn + i);
            boolean right = false;
            for (Integer t : new ArrayList<>(left)) {
                if (book.get(i) == 10L * mover + t) {
                    right = true;
                    left.remove(t);
                }
            }
            if (!right) {
                return i;
            }
        }
        return NONE;
    }

    int judge(int s, int n) {
        int no = bookNo(s, n, 0);
        return no != 0 ? no(no) : wrongOf(bookOf(s, n));
    }

    int stolen(int s, int n) {
        int no = bookNo(s, n, 1);
        if (no != 0) {
            return no(no);
        }
        for (int i = 0; i < n; i++) {
            List<Long> book = bookOf(s, n);
            book.remove(i);
            if (wrongOf(book) == NONE) {
                return i;
            }
        }
        return NONE;
    }

    int fits(int s, int n, int side) {
        int no = bookNo(s, n, 0);
        if (!side(side) || no == -2 && (!shelf(s) || n < 0 || n > 8)) {
            return no(-2);
        }
        if (no != 0) {
            return no(no);
        }
        List<Long> book = bookOf(s, n);
        if (wrongOf(book) != NONE) {
            return no(-5);
        }
        int set = 0;
        for (int b = 0; b < 6; b++) {
            List<Integer> owners = new ArrayList<>(st.owners);
            boolean fit = true;
            for (int i = 0; i < n; i++) {
                int mover = (int) (book.get(i) / 10);
                int t = (int) (book.get(i) % 10);
                if (mover == side) {
                    fit &= choose(st.worths, st.bents, owners, byLaw(st, st.law), i, side, b) == t;
                }
                owners.set(t, mover);
            }
            set |= fit ? 1 << b : 0;
        }
        return set;
    }

    int trades(int what) {
        if (what != 0 && what != 1) {
            return no(-2);
        }
        List<int[]> found = new ArrayList<>();
        for (int i = 0; i < st.owners.size(); i++) {
            for (int j = i + 1; j < st.owners.size(); j++) {
                int a = st.owners.get(i);
                int b = st.owners.get(j);
                if (a != NONE && b != NONE && a != b) {
                    int gainA = value(st.worths, j, a) - value(st.worths, i, a);
                    int gainB = value(st.worths, i, b) - value(st.worths, j, b);
                    if (gainA > 0 && gainB > 0) {
                        found.add(new int[] {10 * i + j, gainA + gainB});
                    }
                }
            }
        }
        if (what == 0) {
            return found.size();
        }
        return found.isEmpty() ? no(-5)
                : found.stream().reduce((x, y) -> y[1] > x[1] ? y : x).get()[0];
    }

    int swap(int thing, int other) {
        if (!isThing(thing) || !isThing(other) || thing == other) {
            return no(-2);
        }
        int a = st.owners.get(thing);
        int b = st.owners.get(other);
        if (a == b) {
            return 0;
        }
        if (a == NONE || b == NONE) {
            return no(-5);
        }
        st.owners.set(thing, b);
        st.owners.set(other, a);
        return 1;
    }

    int pick(int thing) {
        if (!isThing(thing)) {
            return no(-2);
        }
        if (st.owners.get(thing) != NONE || st.turn == 1000000000) {
            return no(-5);
        }
        int side = whoseTurn(st, st.law, st.turn);
        st.owners.set(thing, side);
        st.turn++;
        return side;
    }

    int goes(int n) {
        if (n < 1 || n > 8) {
            return no(-2);
        }
        if ((long) st.turn + n > 1000000000L) {
            return no(-5);
        }
        int done = 0;
        while (done < n && !left(st.owners).isEmpty()) {
            int side = whoseTurn(st, st.law, st.turn);
            pick(choose(st.worths, st.bents, st.owners, byLaw(st, st.law), 0, side, st.bents[side]));
            done++;
        }
        return done;
    }

    int books(int s, int n) {
        int no = bookNo(s, n, 0);
        if (no != 0) {
            return no(no);
        }
        if (wrongOf(bookOf(s, n)) != NONE || (long) st.turn + n > 1000000000L) {
            return no(-5);
        }
        for (long told : bookOf(s, n)) {
            pick((int) (told % 10));
        }
        return n;
    }

    int again() {
        int gone = st.owners.size() - left(st.owners).size();
        st.owners.replaceAll(o -> NONE);
        st.turn = 0;
        return gone;
    }

    int drawn() {
        st.seed = (int) (st.seed * 1103515245L + 12345L);
        return (int) (((st.seed & 0xffffffffL) / 65536) % 100);
    }

    int deal(int n) {
        if (n < 1 || n > 8) {
            return no(-2);
        }
        int done = 0;
        while (done < n && st.worths.size() < 8) {
            int[] w = new int[3];
            for (int s = 0; s < st.sides; s++) {
                w[s] = drawn();
            }
            st.worths.add(w);
            st.owners.add(NONE);
            done++;
        }
        return done;
    }

    int seed(int v) {
        int before = st.seed;
        st.seed = v;
        return before;
    }

    int image() {
        kept = st.twin();
        return 1;
    }

    int back() {
        if (kept == null) {
            return no(-5);
        }
        st = kept.twin();
        return 1;
    }

    int status(int what) {
        return switch (what) {
            case 0 -> st.sides;
            case 1 -> st.worths.size();
            case 2 -> bits(NONE);
            case 3 -> st.law;
            case 4 -> st.turn;
            case 5 -> st.order.size();
            case 6 -> unequalOf(st.owners);
            case 7 -> tape.length();
            case 8 -> st.seed;
            case 9 -> (int) Arrays.stream(shelves).filter(s -> s != null).count();
            case 12, 13, 14, 15, 16 -> refusals[what - 10];
            default -> NONE;
        };
    }
}
