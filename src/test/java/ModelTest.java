import java.util.Random;

/** Long runs of calls by draws (always the same ones), each answer compared with PlainModel's. */
public final class ModelTest {
    private static final int RUNS = 3000;
    // An object is used for at most 512 calls; a step makes fewer than a hundred, the end some thirty.
    private static final int CALLS = 512 - 130;
    private static final int STEPS = 170;
    private static final String[] WORDS = {"sides", "thing", "law", "order", "bent", "turn", "owns", "lawn", "x"};

    private final Due due = new Due("ModelTest");
    private final Random draws;
    private final String name;
    private final FirstAtTheFirst x = new FirstAtTheFirst();
    private final PlainModel m = new PlainModel();
    // Runs with few things left are quick in PlainModel, so only some have many.
    private final int thingsWanted;
    private int calls;
    private static int wrongRuns;

    private ModelTest(int run) {
        draws = new Random(7919L * run + 11);
        name = "run " + run;
        thingsWanted = run % 12 == 0 ? 8 : run % 5 == 0 ? 7 : 1 + run % 6;
    }

    private int below(int n) {
        return draws.nextInt(n);
    }

    /** Mostly 0 to n less 1, now and then just outside or far away. */
    private int near(int n) {
        int kind = below(24);
        if (kind == 0) {
            return -1;
        }
        if (kind == 1) {
            return n;
        }
        if (kind == 2) {
            int[] far = {Integer.MIN_VALUE, Integer.MAX_VALUE, -2, n + 1, 1000000000, 1000000001};
            return far[below(far.length)];
        }
        return below(Math.max(1, n));
    }

    private void same(String call, long got, long want) {
        calls++;
        due.due(name + ": " + call, got, want);
    }

    private String number() {
        int kind = below(20);
        if (kind == 0) {
            return Integer.toString(below(100000));
        }
        if (kind == 1) {
            return "0".repeat(below(4)) + below(10);
        }
        return Integer.toString(kind < 6 ? below(100) : below(4));
    }

    private String text() {
        StringBuilder told = new StringBuilder();
        int statements = 1 + below(5);
        for (int i = 0; i < statements; i++) {
            String word = WORDS[below(below(12) == 0 ? WORDS.length : 7)];
            told.append(i == 0 ? "" : ";").append(below(3) == 0 ? " " : "").append(word);
            int count = switch (word) {
                case "sides", "law", "turn" -> 1;
                case "thing" -> m.st.sides;
                case "order" -> 1 + below(below(3) == 0 ? 14 : 5);
                default -> 2;
            };
            count += below(25) == 0 ? below(3) - 1 : 0;
            for (int k = 0; k < count; k++) {
                told.append(" ".repeat(k == 0 ? below(2) : 1 + below(2))).append(number());
            }
        }
        if (below(10) == 0) {
            told.append(below(2) == 0 ? ";" : " ");
        }
        if (below(12) == 0) {
            told.setCharAt(below(told.length()), (char) (below(2) == 0 ? below(256) : "; Az09"  .charAt(below(6))));
        }
        return told.toString();
    }

    private void tape() {
        String told = text();
        for (int i = 0; i < told.length() && i < 60; i++) {
            same("feed", x.feed(told.charAt(i)), m.feed(told.charAt(i)));
        }
        if (below(12) == 0) {
            same("wipe", x.wipe(), m.wipe());
        } else if (below(12) != 0) {
            same("estate of '" + m.tape + "'", x.estate(), m.estate());
        }
    }

    /** A ROW in a SHELF that may be a BOOK, mostly right ones. */
    private int book() {
        int s = below(8);
        int n = below(Math.min(9, m.left(m.st.owners).size() + 2));
        row(s, below(4), n);
        var left = m.left(m.st.owners);
        for (int i = 0; i < n; i++) {
            int side = m.whoseTurn(m.st, m.st.law, (long) m.st.turn + i);
            int thing = left.isEmpty() ? below(10) : left.remove(below(left.size()));
            if (below(14) == 0) {
                side = below(4) - 1;
            }
            if (below(14) == 0) {
                thing = below(10);
            }
            put(s, i, 10L * side + thing);
        }
        if (n > 0 && below(3) == 0) {
            int i = below(n);
            for (int k = n - 1; k > i; k--) {
                put(s, k, m.element(s, k - 1));
            }
            put(s, i, below(30));
        }
        return s;
    }

    private void row(int s, int sort, int n) {
        same("row", x.row(s, sort, n), m.row(s, sort, n));
    }

    private void put(int s, int i, long v) {
        same("set", x.set(s, i, v), m.set(s, i, v));
    }

    private void things() {
        if (m.st.worths.size() < thingsWanted || below(40) == 0) {
            if (below(2) == 0) {
                int n = Math.min(near(9), thingsWanted);
                same("deal(" + n + ")", x.deal(n), m.deal(n));
            } else {
                int top = below(2) == 0 ? 4 : 100;
                int a = near(top);
                int b = near(top);
                int c = near(top);
                same("thing", x.thing(a, b, c), m.thing(a, b, c));
            }
        }
    }

    private void changes() {
        int a = near(3);
        int b = near(8);
        switch (below(17)) {
            case 0 -> same("sides(" + a + ")", x.sides(a + 1), m.sides(a + 1));
            case 1, 2 -> things();
            case 3 -> {
                int v = near(below(2) == 0 ? 5 : 100);
                same("worth", x.worth(a, b, v), m.worth(a, b, v));
            }
            case 4, 5, 6 -> {
                int v = near(6);
                same("bent", x.bent(a, v), m.bent(a, v));
            }
            case 7 -> {
                int v = near(4);
                same("law", x.law(v), m.law(v));
            }
            case 8 -> {
                int s = below(8);
                int n = below(14);
                row(s, below(5), n);
                for (int i = 0; i < n; i++) {
                    put(s, i, below(20) == 0 ? near(5) : below(m.st.sides));
                }
                int told = below(4) == 0 ? near(13) : n;
                same("order", x.order(s, told), m.order(s, told));
            }
            case 9 -> {
                int v = below(3) == 0 ? near(1000000000) : below(3) == 0 ? 1000000000 - below(12) : below(50);
                same("turn", x.turn(v), m.turn(v));
            }
            case 10, 11 -> {
                int side = near(3);
                same("own", x.own(b, side), m.own(b, side));
            }
            case 12 -> tape();
            case 13 -> same("again", x.again(), m.again());
            case 14 -> {
                int v = draws.nextInt();
                same("seed", x.seed(v), m.seed(v));
            }
            case 15 -> same("image", x.image(), m.image());
            default -> same("back", x.back(), m.back());
        }
    }

    private void rows() {
        int s = near(8);
        int q = near(8);
        switch (below(7)) {
            case 0 -> row(s, near(5), below(6) == 0 ? near(41) : below(10));
            case 1, 2 -> {
                int i = near(10);
                long v = below(2) == 0 ? draws.nextLong() : near(100);
                put(s, i, v);
            }
            case 3 -> {
                int i = near(6);
                int j = near(6);
                int n = near(6);
                same("copy(" + s + ", " + q + ", " + i + ", " + j + ", " + n + ")",
                        x.copy(s, q, i, j, n), m.copy(s, q, i, j, n));
            }
            case 4 -> {
                int i = near(12);
                same("element", x.element(s, i), m.element(s, i));
            }
            case 5 -> same("holds", x.holds(s), m.holds(s));
            default -> {
                int side = near(3);
                same("show", x.show(s, side), m.show(s, side));
            }
        }
    }

    private void truth() {
        int a = near(8);
        int b = near(8);
        switch (below(5)) {
            case 0 -> same("swap", x.swap(a, b), m.swap(a, b));
            case 1 -> same("pick", x.pick(a), m.pick(a));
            case 2 -> {
                int n = below(3) == 0 ? near(9) : 1 + below(3);
                same("goes(" + n + ")", x.goes(n), m.goes(n));
            }
            case 3 -> {
                int s = book();
                int n = bookSize(s);
                same("books", x.books(s, n), m.books(s, n));
            }
            default -> {
                int what = near(2);
                same("trades", x.trades(what), m.trades(what));
            }
        }
    }

    private int bookSize(int s) {
        return below(10) == 0 ? near(9) : m.isRow(s) ? m.shelves[s].row.length : 0;
    }

    private void books() {
        int s = below(12) == 0 ? near(8) : book();
        int n = m.shelf(s) ? bookSize(s) : near(9);
        int side = near(3);
        same("judge", x.judge(s, n), m.judge(s, n));
        same("stolen", x.stolen(s, n), m.stolen(s, n));
        same("fits", x.fits(s, n, side), m.fits(s, n, side));
    }

    private void thoughts() {
        int law = near(4);
        int side = near(3);
        boolean few = m.left(m.st.owners).size() < 7;
        switch (below(14)) {
            case 0 -> same("rival", x.rival(side), m.rival(side));
            case 1, 2 -> same("takes", x.takes(side), m.takes(side));
            case 3, 4 -> {
                int i = near(8);
                same("run", x.run(law, i), m.run(law, i));
            }
            case 5 -> same("gets", x.gets(law, side), m.gets(law, side));
            case 6 -> same("unequal", x.unequal(law), m.unequal(law));
            case 7 -> {
                int s = near(8);
                int bent = near(6);
                same("says", x.says(s, bent), m.says(s, bent));
            }
            case 8 -> {
                if (few || below(8) == 0) {
                    same("game", x.game(law, side), m.game(law, side));
                }
            }
            case 9 -> {
                if (few || below(8) == 0) {
                    same("opening", x.opening(law), m.opening(law));
                }
            }
            case 10 -> {
                if (m.left(m.st.owners).size() < (below(9) == 0 ? 7 : 5)) {
                    int i = near(6);
                    same("fairest", x.fairest(i), m.fairest(i));
                }
            }
            case 11 -> same("best", x.best(), m.best());
            default -> {
                int s = near(8);
                if (below(6) != 0) {
                    s = below(8);
                    row(s, below(4), m.st.worths.size() + (below(20) == 0 ? -1 : 0));
                    for (int i = 0; i < m.st.worths.size(); i++) {
                        put(s, i, near(below(2) == 0 ? 5 : 100));
                    }
                }
                same("sham", x.sham(side, s), m.sham(side, s));
            }
        }
    }

    private void looks() {
        int law = near(4);
        int a = near(3);
        switch (below(7)) {
            case 0 -> {
                int t = below(2) == 0 ? below(60) : near(1000000001);
                same("whose", x.whose(law, t), m.whose(law, t));
            }
            case 1 -> {
                int n = below(12) == 0 ? near(4001) : below(70);
                same("runs", x.runs(law, n), m.runs(law, n));
            }
            case 2 -> {
                int n = below(12) == 0 ? near(1001) : below(70);
                int p = near(4);
                same("powers", x.powers(law, n, p), m.powers(law, n, p));
            }
            case 3 -> {
                int t = near(8);
                int what = near(4);
                same("thingOf", x.thingOf(t, what), m.thingOf(t, what));
            }
            case 4 -> {
                int what = near(3);
                same("sideOf", x.sideOf(a, what), m.sideOf(a, what));
            }
            default -> {
                int what = near(18);
                same("status", x.status(what), m.status(what));
            }
        }
    }

    private void compareAll() {
        for (int what = -1; what <= 18; what++) {
            same("status(" + what + ")", x.status(what), m.status(what));
        }
        for (int s = 0; s < 8; s++) {
            same("holds", x.holds(s), m.holds(s));
        }
    }

    private void go() {
        for (int i = 0; i < STEPS && calls < CALLS; i++) {
            int kind = below(20);
            if (kind < 7) {
                changes();
            } else if (kind < 9) {
                rows();
            } else if (kind < 11) {
                truth();
            } else if (kind < 12) {
                books();
            } else if (kind < 17) {
                thoughts();
            } else {
                looks();
            }
        }
        compareAll();
    }

    public static void main(String[] args) {
        if (args.length == 0) {
            Due.mustEndWithin(300);
        }
        int runs = args.length > 0 ? Integer.parseInt(args[0]) : RUNS;
        for (int run = 0; run < runs; run++) {
            ModelTest test = new ModelTest(run);
            test.go();
            wrongRuns += test.due.wrong() ? 1 : 0;
        }
        System.out.println("ModelTest: " + (runs - wrongRuns) + " runs as due, " + wrongRuns + " not");
        if (wrongRuns != 0) {
            System.exit(1);
        }
    }
}
