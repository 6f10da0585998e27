import java.util.function.LongSupplier;

/** Each promise by hand: what it answers and changes, its edges, its refusals and their counts. */
public final class PromisesTest {
    private static final int NONE = FirstAtTheFirst.NONE;
    private static final int BAD = -2;
    private static final int OTHER = -3;
    private static final int NOTHING = -4;
    private static final int STUCK = -5;
    private static final int FULL = -6;
    private static final int LOW = Integer.MIN_VALUE;
    private static final int HIGH = Integer.MAX_VALUE;

    private final Due d = new Due("PromisesTest");
    private FirstAtTheFirst x;
    private int promise;

    private void is(String call, long got, long want) {
        d.due("promise " + promise + ": " + call, got, want);
    }

    /** A refusal answers, counts itself alone, and changes nothing. */
    private void refused(String call, LongSupplier made, int number, long answer) {
        String before = all();
        int[] counts = new int[5];
        for (int i = 0; i < 5; i++) {
            counts[i] = x.status(12 + i);
        }
        is(call, made.getAsLong(), answer);
        for (int i = 0; i < 5; i++) {
            is(call + " and status(" + (12 + i) + ")", x.status(12 + i), counts[i] + (i == -2 - number ? 1 : 0));
        }
        d.that("promise " + promise + ": " + call + " changes nothing", before.equals(all()));
    }

    private void refused(String call, LongSupplier made, int number) {
        refused(call, made, number, number);
    }

    private String all() {
        StringBuilder told = new StringBuilder();
        for (int i = 0; i < 10; i++) {
            told.append(x.status(i)).append(' ');
        }
        for (int i = 0; i < 8; i++) {
            told.append(x.holds(i)).append(' ');
            for (int k = 0; k < 13; k++) {
                told.append(x.element(i, k)).append(' ');
            }
        }
        for (int t = 0; t < x.status(1); t++) {
            for (int what = 0; what <= x.status(0); what++) {
                told.append(x.thingOf(t, what)).append(' ');
            }
        }
        for (int side = 0; side < x.status(0); side++) {
            told.append(x.sideOf(side, 0)).append(' ');
        }
        for (int t = 0; t < 12; t++) {
            told.append(x.whose(3, t)).append(' ');
        }
        return told.toString();
    }

    /** A new object, and what a text of an ESTATE makes of it. */
    private void make(int number, String text) {
        promise = number;
        x = new FirstAtTheFirst();
        if (!text.isEmpty()) {
            d.that("promise " + number + ": '" + text + "' is read", read(text) > 0);
        }
    }

    private int read(String text) {
        for (int i = 0; i < text.length(); i++) {
            x.feed(text.charAt(i));
        }
        return x.estate();
    }

    /** A ROW in a SHELF. */
    private void shelve(int s, int sort, long... told) {
        is("row", x.row(s, sort, told.length), 1);
        for (int i = 0; i < told.length; i++) {
            is("set", x.set(s, i, told[i]), 1);
        }
    }

    private void promise1() {
        make(1, "");
        int[] want = {2, 0, 0, 0, 0, 1, 0, 0, 1, 0, -1, -1, 0, 0, 0, 0, 0, -1};
        for (int i = 0; i < want.length; i++) {
            is("status(" + i + ")", x.status(i), want[i]);
        }
        for (int s = 0; s < 8; s++) {
            is("holds(" + s + ")", x.holds(s), NONE);
        }
        is("sideOf(0, 0)", x.sideOf(0, 0), 0);
        is("sideOf(1, 0)", x.sideOf(1, 0), 0);
        is("whose(3, 1)", x.whose(3, 1), 0);
        is("back()", x.back(), STUCK);
    }

    private void promise2() {
        make(2, "");
        is("row(7, 4, 40)", x.row(7, 4, 40), 1);
        is("holds(7)", x.holds(7), 4);
        is("set(7, 39, 5)", x.set(7, 39, 5), 1);
        is("element(7, 39)", x.element(7, 39), 1);
        is("row(7, 0, 40) again", x.row(7, 0, 40), 1);
        is("element(7, 39) is new", x.element(7, 39), 0);
        is("row(7, 0, 0)", x.row(7, 0, 0), 1);
        is("holds(7) of none", x.holds(7), 0);
        refused("row(-1, 0, 0)", () -> x.row(-1, 0, 0), BAD);
        refused("row(8, 0, 0)", () -> x.row(8, 0, 0), BAD);
        refused("row(0, -1, 0)", () -> x.row(0, -1, 0), BAD);
        refused("row(0, 5, 0)", () -> x.row(0, 5, 0), BAD);
        refused("row(0, 0, -1)", () -> x.row(0, 0, -1), BAD);
        refused("row(0, 0, 41)", () -> x.row(0, 0, 41), BAD);
        refused("row(low)", () -> x.row(LOW, LOW, LOW), BAD);
    }

    private void promise3() {
        make(3, "");
        long v = 0x123456789abcdef0L;
        long[] want = {(byte) 0xf0, (short) 0xdef0, 0x9abcdef0, v, 1};
        for (int sort = 0; sort < 5; sort++) {
            x.row(sort, sort, 3);
            is("set", x.set(sort, 2, v), 1);
            is("element of sort " + sort, x.element(sort, 2), want[sort]);
            is("element beside", x.element(sort, 1), 0);
        }
        is("set(4, 2, 256)", x.set(4, 2, 256), 1);
        is("element(4, 2)", x.element(4, 2), 1);
        is("set(4, 2, 0)", x.set(4, 2, 0), 1);
        is("element(4, 2) of 0", x.element(4, 2), 0);
        x.show(5, 0);
        refused("set(-1, 0, 0)", () -> x.set(-1, 0, 0), BAD);
        refused("set(8, -1, 0)", () -> x.set(8, -1, 0), BAD);
        refused("set(5, 9, 0)", () -> x.set(5, 9, 0), OTHER);
        refused("set(6, -1, 0)", () -> x.set(6, -1, 0), NOTHING);
        refused("set(0, 3, 0)", () -> x.set(0, 3, 1), BAD);
        refused("set(0, -1, 0)", () -> x.set(0, -1, 1), BAD);
    }

    private void promise4() {
        make(4, "");
        shelve(0, 2, 1, 2, 3, 4, 5);
        shelve(1, 2, 9, 9, 9);
        shelve(2, 3, 7, 7);
        x.show(3, 1);
        is("copy(0, 1, 3, 1, 2)", x.copy(0, 1, 3, 1, 2), 2);
        is("element(1, 0)", x.element(1, 0), 9);
        is("element(1, 1)", x.element(1, 1), 4);
        is("element(1, 2)", x.element(1, 2), 5);
        is("copy(0, 0, 0, 1, 4) forth", x.copy(0, 0, 0, 1, 4), 4);
        for (int i = 0; i < 5; i++) {
            is("element forth", x.element(0, i), i == 0 ? 1 : i);
        }
        is("copy(0, 0, 2, 0, 3) back", x.copy(0, 0, 2, 0, 3), 3);
        long[] want = {2, 3, 4, 3, 4};
        for (int i = 0; i < 5; i++) {
            is("element back", x.element(0, i), want[i]);
        }
        is("copy(0, 1, 5, 3, 0)", x.copy(0, 1, 5, 3, 0), 0);
        refused("copy(8, 0, ..)", () -> x.copy(8, 0, 0, 0, 0), BAD);
        refused("copy(3, -1, ..)", () -> x.copy(3, -1, 0, 0, 0), BAD);
        refused("copy(3, 0, ..)", () -> x.copy(3, 0, 0, 0, 0), OTHER);
        refused("copy(4, 3, ..)", () -> x.copy(4, 3, 0, 0, 0), OTHER);
        refused("copy(3, 4, ..)", () -> x.copy(3, 4, 0, 0, 0), OTHER);
        refused("copy(0, 2, -1, ..)", () -> x.copy(0, 2, -1, 0, 0), OTHER);
        refused("copy(0, 4, -1, ..)", () -> x.copy(0, 4, -1, 0, 0), NOTHING);
        refused("copy(4, 0, -1, ..)", () -> x.copy(4, 0, -1, 0, 0), NOTHING);
        refused("copy(0, 1, 4, 0, 2)", () -> x.copy(0, 1, 4, 0, 2), BAD);
        refused("copy(0, 1, 0, 2, 2)", () -> x.copy(0, 1, 0, 2, 2), BAD);
        refused("copy(0, 1, 0, 0, -1)", () -> x.copy(0, 1, 0, 0, -1), BAD);
        refused("copy(0, 1, -1, 0, 1)", () -> x.copy(0, 1, -1, 0, 1), BAD);
        refused("copy(0, 1, 0, -1, 1)", () -> x.copy(0, 1, 0, -1, 1), BAD);
        refused("copy(0, 1, high, high, high)", () -> x.copy(0, 1, HIGH, HIGH, HIGH), BAD);
        refused("copy(0, 1, 6, 0, 0)", () -> x.copy(0, 1, 6, 0, 0), BAD);
    }

    private void promise5() {
        make(5, "");
        shelve(2, 1, 40000);
        is("element(2, 0)", x.element(2, 0), 40000 - 65536);
        is("element(2, 1)", x.element(2, 1), 0);
        is("element(2, -1)", x.element(2, -1), 0);
        is("element(3, 0)", x.element(3, 0), 0);
        is("element(-1, 0)", x.element(-1, 0), 0);
        is("element(8, high)", x.element(8, HIGH), 0);
        x.show(2, 0);
        is("element of a BENT", x.element(2, 0), 0);
        is("status(12)", x.status(12), 0);
    }

    private void promise6() {
        make(6, "bent 0 5;bent 1 3");
        x.row(1, 2, 0);
        x.show(2, 0);
        x.show(3, 1);
        is("holds(0)", x.holds(0), NONE);
        is("holds(1)", x.holds(1), 2);
        is("holds(2)", x.holds(2), 15);
        is("holds(3)", x.holds(3), 13);
        is("holds(-1)", x.holds(-1), NONE);
        is("holds(8)", x.holds(8), NONE);
        is("status(12)", x.status(12), 0);
    }

    private void promise7() {
        make(7, "bent 1 2");
        is("show(0, 1)", x.show(0, 1), 1);
        is("bent(1, 4)", x.bent(1, 4), 2);
        is("holds(0) as it was", x.holds(0), 12);
        is("show(0, NONE)", x.show(0, NONE), 1);
        is("holds(0) of NONE", x.holds(0), NONE);
        is("show(1, NONE)", x.show(1, NONE), 1);
        x.row(2, 0, 4);
        is("show(2, 0)", x.show(2, 0), 1);
        is("holds(2)", x.holds(2), 10);
        refused("show(8, 0)", () -> x.show(8, 0), BAD);
        refused("show(0, 2)", () -> x.show(0, 2), BAD);
        refused("show(0, -2)", () -> x.show(0, -2), BAD);
    }

    private void promise8() {
        make(8, "bent 0 1;bent 1 4");
        x.show(0, 0);
        x.show(1, 1);
        x.show(7, 1);
        is("says(0, 1) of nothing LEFT", x.says(0, 1), NONE);
        is("status(13)", x.status(13), 0);
        read("thing 3 9;thing 8 1;thing 5 5");
        is("says(0, 0)", x.says(0, 0), 1);
        is("says(0, 1)", x.says(0, 1), 1);
        is("says(1, 4)", x.says(1, 4), 2);
        is("says(1, 0)", x.says(1, 0), 2);
        x.bent(1, 1);
        is("says(1, 0) as it was put there", x.says(1, 0), 2);
        for (int bent = 2; bent <= 5; bent++) {
            int told = bent;
            refused("says(0, " + bent + ")", () -> x.says(0, told), OTHER);
        }
        refused("says(1, 1)", () -> x.says(1, 1), OTHER);
        int[] under = {1, 2, 3, 5};
        for (int bent : under) {
            x.bent(0, bent);
            x.show(2, 0);
            is("says(2, 0) of " + bent, x.says(2, 0), x.takes(0));
            is("says(2, 1) of " + bent, x.says(2, 1), x.takes(0));
            is("says(2, own) of " + bent, x.says(2, bent), x.takes(0));
            refused("says(2, 4) of " + bent, () -> x.says(2, 4), OTHER);
        }
        x.row(3, 0, 1);
        refused("says(3, 0)", () -> x.says(3, 0), OTHER);
        refused("says(4, 0)", () -> x.says(4, 0), NOTHING);
        refused("says(8, 0)", () -> x.says(8, 0), BAD);
        refused("says(3, 6)", () -> x.says(3, 6), BAD);
        refused("says(3, -1)", () -> x.says(3, -1), BAD);
        make(8, "sides 3;bent 2 2");
        x.show(0, 2);
        x.sides(2);
        refused("says(0, 2) of no SIDE", () -> x.says(0, 2), BAD);
        refused("says(0, 3) of no SIDE", () -> x.says(0, 3), OTHER);
        x.sides(3);
        is("says(0, 2) of a SIDE again", x.says(0, 2), NONE);
    }

    private void promise9() {
        make(9, "bent 0 3;bent 1 2;order 1 0 1;law 2;turn 7");
        is("sides(3)", x.sides(3), 2);
        is("sideOf(0, 0)", x.sideOf(0, 0), 0);
        is("sideOf(1, 0)", x.sideOf(1, 0), 0);
        is("sideOf(2, 0)", x.sideOf(2, 0), 0);
        is("status(5)", x.status(5), 1);
        is("whose(3, 5)", x.whose(3, 5), 0);
        is("status(3)", x.status(3), 2);
        is("status(4)", x.status(4), 7);
        x.bent(2, 4);
        is("sides(3) again", x.sides(3), 3);
        is("sideOf(2, 0) again", x.sideOf(2, 0), 0);
        refused("sides(1)", () -> x.sides(1), BAD);
        refused("sides(4)", () -> x.sides(4), BAD);
        x.thing(1, 1, 1);
        refused("sides(3) with THINGS", () -> x.sides(3), STUCK);
        refused("sides(4) with THINGS", () -> x.sides(4), BAD);
    }

    private void promise10() {
        make(10, "");
        for (int i = 0; i < 8; i++) {
            is("thing", x.thing(i, 99 - i, -1), i);
        }
        is("thingOf(7, 0)", x.thingOf(7, 0), NONE);
        is("thingOf(7, 1)", x.thingOf(7, 1), 7);
        is("thingOf(7, 2)", x.thingOf(7, 2), 92);
        refused("thing(1, 1, 1) too many", () -> x.thing(1, 1, 1), FULL);
        refused("thing(100, 1, 1) too many", () -> x.thing(100, 1, 1), BAD);
        make(10, "sides 3");
        is("thing(0, 99, 50)", x.thing(0, 99, 50), 0);
        is("thingOf(0, 3)", x.thingOf(0, 3), 50);
        refused("thing(-1, 0, 0)", () -> x.thing(-1, 0, 0), BAD);
        refused("thing(0, 100, 0)", () -> x.thing(0, 100, 0), BAD);
        refused("thing(0, 0, 100)", () -> x.thing(0, 0, 100), BAD);
        refused("thing(0, 0, -1)", () -> x.thing(0, 0, -1), BAD);
    }

    private void promise11() {
        make(11, "sides 3;thing 1 2 3;thing 4 5 6");
        is("worth(2, 1, 99)", x.worth(2, 1, 99), 6);
        is("worth(2, 1, 0)", x.worth(2, 1, 0), 99);
        is("worth(0, 0, 7)", x.worth(0, 0, 7), 1);
        is("thingOf(0, 1)", x.thingOf(0, 1), 7);
        is("thingOf(0, 2)", x.thingOf(0, 2), 2);
        refused("worth(3, 0, 0)", () -> x.worth(3, 0, 0), BAD);
        refused("worth(-1, 0, 0)", () -> x.worth(-1, 0, 0), BAD);
        refused("worth(0, 2, 0)", () -> x.worth(0, 2, 0), BAD);
        refused("worth(0, -1, 0)", () -> x.worth(0, -1, 0), BAD);
        refused("worth(0, 0, 100)", () -> x.worth(0, 0, 100), BAD);
        refused("worth(0, 0, -1)", () -> x.worth(0, 0, -1), BAD);
    }

    private void promise12() {
        make(12, "");
        is("bent(1, 5)", x.bent(1, 5), 0);
        is("bent(1, 0)", x.bent(1, 0), 5);
        is("bent(0, 3)", x.bent(0, 3), 0);
        is("sideOf(0, 0)", x.sideOf(0, 0), 3);
        is("sideOf(1, 0)", x.sideOf(1, 0), 0);
        refused("bent(2, 0)", () -> x.bent(2, 0), BAD);
        refused("bent(-1, 0)", () -> x.bent(-1, 0), BAD);
        refused("bent(0, 6)", () -> x.bent(0, 6), BAD);
        refused("bent(0, -1)", () -> x.bent(0, -1), BAD);
    }

    private void promise13() {
        make(13, "");
        is("law(3)", x.law(3), 0);
        is("law(1)", x.law(1), 3);
        is("status(3)", x.status(3), 1);
        refused("law(4)", () -> x.law(4), BAD);
        refused("law(-1)", () -> x.law(-1), BAD);
    }

    private void promise14() {
        make(14, "sides 3");
        shelve(0, 0, 2, 1, 0, 2, 2, 2, 2, 2, 2, 2, 2, 1, 3);
        is("order(0, 12)", x.order(0, 12), 12);
        is("status(5)", x.status(5), 12);
        is("whose(3, 0)", x.whose(3, 0), 2);
        is("whose(3, 11)", x.whose(3, 11), 1);
        is("whose(3, 12)", x.whose(3, 12), 2);
        is("order(0, 1)", x.order(0, 1), 1);
        is("whose(3, 1)", x.whose(3, 1), 2);
        shelve(1, 3, 1, 3, -1, 1L << 32);
        refused("order(0, 0)", () -> x.order(0, 0), BAD);
        refused("order(0, 13)", () -> x.order(0, 13), BAD);
        refused("order(8, 1)", () -> x.order(8, 1), BAD);
        refused("order(1, 5)", () -> x.order(1, 5), BAD);
        refused("order(1, 2)", () -> x.order(1, 2), BAD);
        x.set(1, 1, 1);
        refused("order(1, 3)", () -> x.order(1, 3), BAD);
        x.set(1, 2, 1);
        refused("order(1, 4)", () -> x.order(1, 4), BAD);
        is("order(1, 3)", x.order(1, 3), 3);
        x.show(2, 0);
        refused("order(2, 12)", () -> x.order(2, 12), OTHER);
        refused("order(3, 12)", () -> x.order(3, 12), NOTHING);
        shelve(4, 4, 0, 7);
        is("order(4, 2) of booleans", x.order(4, 2), 2);
        is("whose(3, 1) of booleans", x.whose(3, 1), 1);
    }

    private void promise15() {
        make(15, "");
        is("turn(1000000000)", x.turn(1000000000), 0);
        is("turn(5)", x.turn(5), 1000000000);
        is("status(4)", x.status(4), 5);
        refused("turn(1000000001)", () -> x.turn(1000000001), BAD);
        refused("turn(-1)", () -> x.turn(-1), BAD);
    }

    private void promise16() {
        make(16, "thing 1 2;thing 3 4");
        is("own(1, 1)", x.own(1, 1), NONE);
        is("own(1, 0)", x.own(1, 0), 1);
        is("thingOf(1, 0)", x.thingOf(1, 0), 0);
        is("status(2)", x.status(2), 1);
        is("own(1, NONE)", x.own(1, NONE), 0);
        is("status(2) again", x.status(2), 3);
        is("status(4)", x.status(4), 0);
        refused("own(2, 0)", () -> x.own(2, 0), BAD);
        refused("own(-1, 0)", () -> x.own(-1, 0), BAD);
        refused("own(0, 2)", () -> x.own(0, 2), BAD);
        refused("own(0, -2)", () -> x.own(0, -2), BAD);
    }

    private void promise17And18() {
        make(17, "");
        is("feed(0)", x.feed(0), 1);
        is("feed(255)", x.feed(255), 2);
        refused("feed(256)", () -> x.feed(256), BAD);
        refused("feed(-1)", () -> x.feed(-1), BAD);
        for (int i = 3; i <= 250; i++) {
            is("feed", x.feed(32), i);
        }
        refused("feed(32) too many", () -> x.feed(32), FULL);
        refused("feed(256) too many", () -> x.feed(256), BAD);
        promise = 18;
        is("status(7)", x.status(7), 250);
        is("wipe()", x.wipe(), 250);
        is("status(7) of none", x.status(7), 0);
        is("wipe() again", x.wipe(), 0);
        is("feed(97)", x.feed(97), 1);
    }

    /** The FAULT is told by its place in the text: a ^ stands in front of it. */
    private void fault(String marked) {
        String text = marked.substring(0, marked.indexOf('^')) + marked.substring(marked.indexOf('^') + 1);
        String before = all();
        int bad = x.status(12);
        is("'" + marked + "'", read(text), -20 - marked.indexOf('^'));
        is("'" + marked + "' and status(12)", x.status(12), bad + 1);
        d.that("'" + marked + "' changes nothing", before.equals(all()));
    }

    private void promise19() {
        make(19, "");
        is("a whole one", read("  sides3;thing 1 2 3;thing99 0 0099;law 3 ;order 2 1 0;bent 2 5;turn 9999;owns 2 1  "), 8);
        int[] want = {3, 2, 1, 3, 9999, 3, 99, 0, 1};
        for (int i = 0; i < want.length; i++) {
            is("status(" + i + ")", x.status(i), want[i]);
        }
        is("thingOf(0, 3)", x.thingOf(0, 3), 3);
        is("thingOf(1, 0)", x.thingOf(1, 0), 2);
        is("thingOf(1, 1)", x.thingOf(1, 1), 99);
        is("sideOf(2, 0)", x.sideOf(2, 0), 5);
        is("whose(3, 4)", x.whose(3, 4), 1);
        fault("^sides 3");
        fault("law 2;^sides 3");
        fault("thing 1 2^;law 1");
        fault("thing 1 2 ^100");
        fault("thing 1 2 3 ^4");
        fault("owns 0 ^2");
        is("a THING that is there by then", read("thing 1 1 1;owns 1 2"), 2);
        is("thingOf(2, 0)", x.thingOf(2, 0), 1);
        is("one that was read before", read("owns 0 0"), 1);
        fault("thing 0 0 0;thing 0 0 0;thing 0 0 0;thing 0 0 0;thing 0 0 0;^thing 1");
        is("what there is room for", read("thing 0 0 0;thing 0 0 0;thing 0 0 0;thing 0 0 0;thing 0 0 0"), 5);
        fault("turn 1;^thing 0 0 0");
        make(19, "bent 0 3;bent 1 4;order 1 1");
        fault("law 1;sides ^4");
        fault("law 1;sides ^1");
        fault("sides 3;thing 1 2^");
        fault("^");
        fault("   ^");
        fault("law 1;^");
        fault("law 1; ^");
        fault("law^");
        fault("law 1^?");
        fault("^;law 1");
        fault("law 1;^;law 1");
        fault("^7");
        fault("^lawn 1");
        fault("^Law 1");
        fault("^lawz 1");
        fault("^alaw 1");
        fault("law ^a");
        fault("law\u0001 1".replace("\u0001", "^\u0001"));
        fault("law ^4");
        fault("law ^00001");
        fault("law ^99999999999999999999");
        fault("law 1 ^2");
        fault("law 1 ^law 2");
        fault("turn ^10000");
        fault("bent ^2 0");
        fault("bent 1 ^6");
        fault("bent 1^");
        fault("owns 0 ^0");
        fault("owns ^2 0");
        fault("thing 1 1;order 0 ^2");
        fault("order ^;law 1");
        fault("order^");
        fault("order 0 1 0 1 0 1 0 1 0 1 0 1 ^0");
        fault("order 0 1 0 1 0 1 0 1 0 1 0 1 ^9");
        fault("order 0 1 ^law 1");
        fault("thing 1 1;^sides 2");
        is("twelve", read("order 0 1 0 1 0 1 0 1 0 1 0 1;law 3"), 2);
        is("status(5)", x.status(5), 12);
        is("sides again", read("sides 2"), 1);
        is("status(5) of sides", x.status(5), 1);
        is("sideOf(0, 0) of sides", x.sideOf(0, 0), 0);
        is("sideOf(1, 0) of sides", x.sideOf(1, 0), 0);
        is("status(3) of sides", x.status(3), 3);
        is("bent in what sides made", read("sides 3;bent 2 1;thing 1 2 3;law 0003"), 4);
        is("status(7)", x.status(7), 0);
        is("estate() of nothing", x.estate(), -20);
    }

    private void promise20And21() {
        make(20, "thing 10 20;thing 30 40;thing 50 60;owns 1 0;owns 1 2;bent 1 4");
        is("thingOf(0, 0)", x.thingOf(0, 0), 1);
        is("thingOf(1, 0)", x.thingOf(1, 0), NONE);
        is("thingOf(1, 1)", x.thingOf(1, 1), 30);
        is("thingOf(1, 2)", x.thingOf(1, 2), 40);
        is("status(12)", x.status(12), 0);
        refused("thingOf(3, 0)", () -> x.thingOf(3, 0), BAD);
        refused("thingOf(-1, 0)", () -> x.thingOf(-1, 0), BAD);
        refused("thingOf(0, 3)", () -> x.thingOf(0, 3), BAD);
        refused("thingOf(0, -1)", () -> x.thingOf(0, -1), BAD);
        promise = 21;
        is("sideOf(1, 0)", x.sideOf(1, 0), 4);
        is("sideOf(1, 1)", x.sideOf(1, 1), 80);
        is("sideOf(1, 2)", x.sideOf(1, 2), 5);
        is("sideOf(0, 1)", x.sideOf(0, 1), 0);
        is("sideOf(0, 2)", x.sideOf(0, 2), 0);
        refused("sideOf(2, 0)", () -> x.sideOf(2, 0), BAD);
        refused("sideOf(-1, 0)", () -> x.sideOf(-1, 0), BAD);
        refused("sideOf(0, 3)", () -> x.sideOf(0, 3), BAD);
        refused("sideOf(0, -1)", () -> x.sideOf(0, -1), BAD);
    }

    private void turnsAre(int law, String want) {
        for (int t = 0; t < want.length(); t++) {
            is("whose(" + law + ", " + t + ")", x.whose(law, t), want.charAt(t) - '0');
        }
    }

    private void promise22() {
        make(22, "order 1 1 0");
        turnsAre(0, "01010101");
        turnsAre(1, "011001100110");
        turnsAre(2, "0110100110010110");
        turnsAre(3, "110110110");
        is("whose(0, 1000000000)", x.whose(0, 1000000000), 0);
        is("whose(1, 1000000000)", x.whose(1, 1000000000), 0);
        is("whose(2, 1000000000)", x.whose(2, 1000000000), 1);
        is("whose(3, 1000000000)", x.whose(3, 1000000000), 1);
        make(22, "sides 3;order 2 0");
        turnsAre(0, "012012012");
        turnsAre(1, "012210012210");
        turnsAre(2, "012120201120201012201012120");
        turnsAre(3, "2020");
        is("whose(0, 1000000000)", x.whose(0, 1000000000), 1);
        is("whose(1, 1000000000)", x.whose(1, 1000000000), 1);
        is("whose(2, 729)", x.whose(2, 729), 1);
        refused("whose(4, 0)", () -> x.whose(4, 0), BAD);
        refused("whose(-1, 0)", () -> x.whose(-1, 0), BAD);
        refused("whose(0, -1)", () -> x.whose(0, -1), BAD);
        refused("whose(0, 1000000001)", () -> x.whose(0, 1000000001), BAD);
    }

    private void promise23() {
        make(23, "order 1 1 0 1");
        is("runs(0, 4000)", x.runs(0, 4000), 1);
        is("runs(1, 2)", x.runs(1, 2), 1);
        is("runs(1, 3)", x.runs(1, 3), 2);
        is("runs(2, 4000)", x.runs(2, 4000), 2);
        is("runs(3, 4)", x.runs(3, 4), 2);
        is("runs(3, 6)", x.runs(3, 6), 3);
        is("runs(3, 1)", x.runs(3, 1), 1);
        x.row(0, 0, 1);
        x.order(0, 1);
        is("runs(3, 4000)", x.runs(3, 4000), 4000);
        refused("runs(3, 0)", () -> x.runs(3, 0), BAD);
        refused("runs(3, 4001)", () -> x.runs(3, 4001), BAD);
        refused("runs(4, 1)", () -> x.runs(4, 1), BAD);
    }

    private void promise24() {
        make(24, "");
        is("powers(0, 0, 0)", x.powers(0, 0, 0), 0);
        is("powers(0, 1, 0)", x.powers(0, 1, 0), 1);
        is("powers(0, 1, 3)", x.powers(0, 1, 3), 0);
        is("powers(0, 4, 1)", x.powers(0, 4, 1), -2);
        is("powers(0, 4, 2)", x.powers(0, 4, 2), -6);
        is("powers(1, 4, 2)", x.powers(1, 4, 2), 4);
        is("powers(2, 16, 3)", x.powers(2, 16, 3), 0);
        is("powers(3, 1000, 3)", x.powers(3, 1000, 3), 249500250000L);
        make(24, "sides 3;order 2");
        is("powers(0, 3, 1)", x.powers(0, 3, 1), -1);
        is("powers(3, 1000, 3)", x.powers(3, 1000, 3), 0);
        long bad = -10000000000002L;
        refused("powers(4, 0, 0)", () -> x.powers(4, 0, 0), BAD, bad);
        refused("powers(0, -1, 0)", () -> x.powers(0, -1, 0), BAD, bad);
        refused("powers(0, 1001, 0)", () -> x.powers(0, 1001, 0), BAD, bad);
        refused("powers(0, 0, 4)", () -> x.powers(0, 0, 4), BAD, bad);
        refused("powers(0, 0, -1)", () -> x.powers(0, 0, -1), BAD, bad);
    }

    private void promise25() {
        make(25, "sides 3;law 1;order 0 1 1 1 1 1 1 1 1 1 1 1");
        is("rival(0)", x.rival(0), 1);
        is("rival(1)", x.rival(1), 2);
        is("rival(2)", x.rival(2), 1);
        x.turn(2);
        is("rival(2) at TURN 2", x.rival(2), 1);
        is("rival(1) at TURN 2", x.rival(1), 2);
        x.turn(4);
        is("rival(0) at TURN 4", x.rival(0), 1);
        x.turn(1000000000);
        is("rival(0) far on", x.rival(0), 1);
        is("rival(1) far on", x.rival(1), 0);
        x.law(3);
        x.turn(0);
        is("rival(1) by ORDER", x.rival(1), 0);
        is("rival(0) by ORDER", x.rival(0), 1);
        shelve(0, 0, 2);
        x.order(0, 1);
        is("rival(2) of none", x.rival(2), NONE);
        is("rival(0) of one", x.rival(0), 2);
        is("status(12)", x.status(12), 0);
        refused("rival(3)", () -> x.rival(3), BAD);
        refused("rival(-1)", () -> x.rival(-1), BAD);
    }

    private void takenBy(int bent, int want) {
        x.bent(0, bent);
        is("takes(0) by " + bent, x.takes(0), want);
    }

    private void promise26() {
        make(26, "thing 5 1;thing 3 9;thing 8 2;thing 1 4");
        takenBy(0, 0);
        takenBy(1, 2);
        takenBy(2, 1);
        takenBy(3, 2);
        takenBy(4, 3);
        x.own(0, 1);
        x.own(3, 0);
        takenBy(0, 1);
        takenBy(4, 2);
        make(26, "thing 4 7;thing 6 7;thing 6 7");
        takenBy(1, 1);
        takenBy(2, 1);
        make(26, "thing 99 7;thing 0 8");
        takenBy(2, 1);
        make(26, "thing 9 2;thing 3 5;thing 8 2");
        takenBy(3, 0);
        x.own(1, 0);
        takenBy(3, 0);
        x.own(0, 0);
        takenBy(3, 2);
        make(26, "thing 9 2;thing 3 5;thing 8 2;law 3");
        takenBy(2, 0);
        takenBy(3, 0);
        make(26, "thing 9 0;thing 3 5");
        takenBy(3, 1);
        make(26, "thing 10 0;thing 9 9;thing 0 8;bent 1 1");
        takenBy(1, 0);
        takenBy(5, 1);
        x.bent(1, 5);
        takenBy(5, 1);
        x.bent(1, 0);
        takenBy(5, 0);
        x.bent(1, 4);
        takenBy(5, 0);
        is("takes(1) if it were its turn", x.takes(1), 2);
        make(26, "thing 4 4;thing 4 4;bent 0 5");
        takenBy(5, 0);
        is("own", x.own(0, 1), NONE);
        is("own", x.own(1, 1), NONE);
        refused("takes(0)", () -> x.takes(0), STUCK);
        refused("takes(2)", () -> x.takes(2), BAD);
        refused("takes(-1)", () -> x.takes(-1), BAD);
    }

    private void promise27To29() {
        make(27, "thing 4 4;thing 3 3;thing 2 2;thing 1 1;order 1");
        int[][] has = {{6, 4}, {5, 5}, {5, 5}, {0, 10}};
        for (int law = 0; law < 4; law++) {
            for (int i = 0; i < 4; i++) {
                is("run(" + law + ", " + i + ")", x.run(law, i), i);
            }
            is("gets(" + law + ", 0)", x.gets(law, 0), has[law][0]);
            is("gets(" + law + ", 1)", x.gets(law, 1), has[law][1]);
            is("unequal(" + law + ")", x.unequal(law), Math.abs(has[law][0] - has[law][1]));
        }
        x.bent(0, 4);
        x.bent(1, 1);
        is("run(0, 0)", x.run(0, 0), 3);
        is("run(0, 1)", x.run(0, 1), 0);
        is("run(0, 2)", x.run(0, 2), 2);
        is("run(0, 3)", x.run(0, 3), 1);
        x.turn(1);
        is("run(0, 0) at TURN 1", x.run(0, 0), 0);
        x.own(0, 0);
        is("run(0, 0) of what is LEFT", x.run(0, 0), 1);
        promise = 28;
        is("gets(0, 0) with what it owned", x.gets(0, 0), 4 + 1);
        is("gets(0, 1)", x.gets(0, 1), 3 + 2);
        promise = 29;
        is("unequal(0)", x.unequal(0), 0);
        is("status(6)", x.status(6), 4);
        is("status(4)", x.status(4), 1);
        is("status(2)", x.status(2), 14);
        promise = 27;
        refused("run(0, 3)", () -> x.run(0, 3), STUCK);
        refused("run(0, high)", () -> x.run(0, HIGH), STUCK);
        refused("run(0, -1)", () -> x.run(0, -1), BAD);
        refused("run(4, 9)", () -> x.run(4, 9), BAD);
        promise = 28;
        refused("gets(4, 0)", () -> x.gets(4, 0), BAD);
        refused("gets(0, 2)", () -> x.gets(0, 2), BAD);
        refused("gets(0, -1)", () -> x.gets(0, -1), BAD);
        promise = 29;
        refused("unequal(4)", () -> x.unequal(4), BAD);
        refused("unequal(-1)", () -> x.unequal(-1), BAD);
        make(29, "sides 3;thing 9 9 9;thing 4 4 4;thing 1 1 1");
        is("unequal(0) of three", x.unequal(0), 8);
        is("unequal(3) of three", x.unequal(3), 14);
    }

    private void promise30And31() {
        make(30, "thing 10 0;thing 9 9;thing 0 8;order 1 1 0");
        is("game(0, 0)", x.game(0, 0), 19);
        is("game(0, 1)", x.game(0, 1), 8);
        is("game(0, NONE)", x.game(0, NONE), 11);
        is("game(3, 0)", x.game(3, 0), 10);
        is("game(3, 1)", x.game(3, 1), 17);
        promise = 31;
        is("opening(0)", x.opening(0), 1);
        is("opening(3)", x.opening(3), 1);
        x.own(1, 1);
        is("opening(0) of two", x.opening(0), 0);
        promise = 30;
        is("game(0, 1) with what it owned", x.game(0, 1), 17);
        is("status(2)", x.status(2), 5);
        refused("game(4, 0)", () -> x.game(4, 0), BAD);
        refused("game(0, 2)", () -> x.game(0, 2), BAD);
        refused("game(0, -2)", () -> x.game(0, -2), BAD);
        promise = 31;
        refused("opening(4)", () -> x.opening(4), BAD);
        x.own(0, 0);
        x.own(2, 0);
        refused("opening(0) of nothing", () -> x.opening(0), STUCK);
        refused("opening(-1) of nothing", () -> x.opening(-1), BAD);
        is("game(0, NONE) of nothing", x.game(0, NONE), 1);
        make(31, "thing 3 3;thing 3 3;thing 3 3");
        is("opening(0), of several the first", x.opening(0), 0);
    }

    private void promise32And33() {
        make(32, "thing 4 4;thing 2 2;thing 1 1");
        int[] want = {1, 0, 1, 1};
        for (int i = -1; i < 3; i++) {
            is("fairest(" + i + ")", x.fairest(i), want[i + 1]);
        }
        refused("fairest(3)", () -> x.fairest(3), STUCK);
        refused("fairest(high)", () -> x.fairest(HIGH), STUCK);
        refused("fairest(-2)", () -> x.fairest(-2), BAD);
        x.own(0, 0);
        is("fairest(0) of what is LEFT", x.fairest(0), 1);
        is("fairest(1) of what is LEFT", x.fairest(1), 0);
        is("fairest(-1) of what is LEFT", x.fairest(-1), 3);
        make(32, "sides 3;thing 5 5 5;thing 5 5 5;thing 5 5 5;thing 0 0 0;law 3");
        int[] three = {0, 0, 1, 2, 0};
        for (int i = -1; i < 4; i++) {
            is("fairest(" + i + ") of three", x.fairest(i), three[i + 1]);
        }
        make(32, "thing 1 9;thing 7 3;thing 6 0;bent 0 2");
        // 001: 8 to 0. 010: 7 to 3. 011: 1 to 3. 100: 13 to 9. 101: 7 to 9. 110: 6 to 12.
        is("fairest(-1) by SPOILS", x.fairest(-1), 2);
        is("fairest(0) by SPOILS", x.fairest(0), 0);
        is("fairest(1) by SPOILS", x.fairest(1), 1);
        is("fairest(2) by SPOILS", x.fairest(2), 1);
        make(32, "sides 3;thing 0 10 0;thing 0 0 10;thing 5 5 5;thing 5 5 5;owns 1 0;owns 2 1");
        is("fairest(-1), no SIDE two more than another", x.fairest(-1), 10);
        is("fairest(0), no SIDE two more than another", x.fairest(0), 0);
        is("fairest(1), no SIDE two more than another", x.fairest(1), 1);
        make(32, "");
        is("fairest(-1) of nothing", x.fairest(-1), 0);
        refused("fairest(0) of nothing", () -> x.fairest(0), STUCK);
        make(33, "thing 4 4;thing 3 3;thing 2 2;thing 1 1");
        is("best()", x.best(), 1);
        x.own(3, 1);
        is("best() of three", x.best(), 0);
        x.own(2, 1);
        x.own(1, 1);
        is("best() of one", x.best(), 0);
        make(33, "thing 4 4;thing 5 5;thing 9 9;order 0 0 1");
        is("best() is ORDER", x.best(), 3);
        is("best() of nothing", new FirstAtTheFirst().best(), 0);
    }

    private void promise34() {
        make(34, "thing 5 9;thing 5 1;bent 0 2;bent 1 1");
        shelve(0, 2, 0, 50);
        is("sham(1, 0)", x.sham(1, 0), 8);
        is("sham(0, 0)", x.sham(0, 0), 0);
        is("thingOf(0, 2)", x.thingOf(0, 2), 9);
        make(34, "thing 9 5;thing 1 9;thing 0 0;bent 0 3;bent 1 1");
        shelve(0, 2, 0, 50, 50);
        is("sham(1, 0) below 0", x.sham(1, 0), -4);
        // SIDE 1 LOOKS as if SIDE 0 knew its true WORTHS (9 0, so SIDE 0 would leave it nothing).
        make(34, "thing 3 9;thing 3 8;thing 3 0;bent 0 2;bent 1 5;turn 1");
        shelve(0, 0, 0, 0, 99);
        is("gets(0, 1)", x.gets(0, 1), 9);
        is("sham(1, 0) of one that LOOKS", x.sham(1, 0), 8);
        int low = -10000000;
        refused("sham(2, 0)", () -> x.sham(2, 0), BAD, low - 2);
        refused("sham(-1, 0)", () -> x.sham(-1, 0), BAD, low - 2);
        refused("sham(0, 8)", () -> x.sham(0, 8), BAD, low - 2);
        x.show(1, 0);
        refused("sham(0, 1)", () -> x.sham(0, 1), OTHER, low - 3);
        refused("sham(0, 2)", () -> x.sham(0, 2), NOTHING, low - 4);
        shelve(2, 0, 1, 2);
        refused("sham(0, 2) of fewer", () -> x.sham(0, 2), BAD, low - 2);
        shelve(2, 0, 1, 2, 100);
        refused("sham(0, 2) of 100", () -> x.sham(0, 2), BAD, low - 2);
        shelve(2, 3, 1, -1, 99);
        refused("sham(0, 2) of -1", () -> x.sham(0, 2), BAD, low - 2);
        shelve(2, 3, 1, 1L << 32, 99);
        refused("sham(0, 2) of a great one", () -> x.sham(0, 2), BAD, low - 2);
        shelve(2, 3, 0, 0, 99, 100);
        is("sham(1, 2) with more behind", x.sham(1, 2), 8);
    }

    private void promise35And36() {
        make(35, "thing 1 1;thing 1 1;thing 1 1;thing 1 1;owns 0 3;turn 1;law 1");
        shelve(0, 2, 10, 11, 2, 0, 11, 2, 7, 7, 7);
        is("judge(0, 3)", x.judge(0, 3), NONE);
        is("judge(0, 0)", x.judge(0, 0), NONE);
        is("judge(0, 4)", x.judge(0, 4), 3);
        shelve(1, 2, 10, 1, 2);
        is("judge out of turn", x.judge(1, 3), 1);
        is("judge before it", x.judge(1, 1), NONE);
        shelve(1, 3, 10, 10, 2);
        is("judge of one taken", x.judge(1, 3), 1);
        shelve(1, 3, 13);
        is("judge of one owned", x.judge(1, 1), 0);
        shelve(1, 3, 14);
        is("judge of no THING", x.judge(1, 1), 0);
        shelve(1, 3, 19);
        is("judge of no THING", x.judge(1, 1), 0);
        shelve(1, 3, 20);
        is("judge of no SIDE", x.judge(1, 1), 0);
        shelve(1, 3, 10, 11, -8);
        is("judge of one below 0", x.judge(1, 3), 2);
        shelve(1, 3, (1L << 32) + 10);
        is("judge of a great one", x.judge(1, 1), 0);
        is("status(12)", x.status(12), 0);
        x.show(2, 0);
        refused("judge(0, 9)", () -> x.judge(0, 9), BAD);
        refused("judge(0, -1)", () -> x.judge(0, -1), BAD);
        refused("judge(8, 0)", () -> x.judge(8, 0), BAD);
        refused("judge(2, 8)", () -> x.judge(2, 8), OTHER);
        refused("judge(3, 8)", () -> x.judge(3, 8), NOTHING);
        refused("judge(1, 2)", () -> x.judge(1, 2), BAD);
        promise = 36;
        shelve(1, 0, 10, 12, 11, 2, 0);
        is("stolen(1, 4)", x.stolen(1, 4), 1);
        is("stolen(1, 5)", x.stolen(1, 5), NONE);
        shelve(1, 0, 10, 0, 11, 2);
        is("stolen of one between", x.stolen(1, 4), 1);
        shelve(1, 0, 2, 10, 11, 2);
        is("stolen of the first", x.stolen(1, 4), 0);
        is("stolen of one alone", x.stolen(1, 1), 0);
        shelve(1, 0, 10, 11, 2);
        is("stolen of a right one", x.stolen(1, 3), 2);
        is("stolen of two right ones", x.stolen(1, 2), 0);
        refused("stolen(1, 0)", () -> x.stolen(1, 0), BAD);
        refused("stolen(0, 9)", () -> x.stolen(0, 9), BAD);
        refused("stolen(-1, 1)", () -> x.stolen(-1, 1), BAD);
        refused("stolen(2, 8)", () -> x.stolen(2, 8), OTHER);
        refused("stolen(3, 8)", () -> x.stolen(3, 8), NOTHING);
        refused("stolen(1, 4)", () -> x.stolen(1, 4), BAD);
    }

    private void promise37() {
        make(37, "thing 9 3;thing 7 8;thing 7 5;thing 4 9;thing 2 6;thing 5 5;law 2;bent 0 5;bent 1 5");
        shelve(0, 0, 0, 13, 11);
        is("fits(0, 0, 1)", x.fits(0, 0, 1), 63);
        is("fits(0, 1, 1)", x.fits(0, 1, 1), 63);
        is("fits(0, 2, 0)", x.fits(0, 2, 0), 3);
        is("fits(0, 2, 1)", x.fits(0, 2, 1), 10);
        // In looking ahead the other is as it is (LASTS), and not as in the BOOK.
        make(37, "thing 10 0;thing 9 9;thing 0 8;bent 1 4");
        shelve(0, 0, 0, 12, 1);
        is("fits of one that LOOKS", x.fits(0, 3, 0), 1 + 2 + 32);
        shelve(0, 0, 0, 11, 2);
        is("fits of one that LOOKS, others as in the BOOK", x.fits(0, 3, 0), 1 + 2 + 32);
        is("fits of the other", x.fits(0, 3, 1), 1 + 2 + 4 + 8 + 32);
        x.show(1, 0);
        refused("fits(0, 1, 2)", () -> x.fits(0, 1, 2), BAD);
        refused("fits(1, 1, -1)", () -> x.fits(1, 1, -1), BAD);
        refused("fits(0, 9, 0)", () -> x.fits(0, 9, 0), BAD);
        refused("fits(8, 0, 0)", () -> x.fits(8, 0, 0), BAD);
        refused("fits(1, 8, 0)", () -> x.fits(1, 8, 0), OTHER);
        refused("fits(2, 8, 0)", () -> x.fits(2, 8, 0), NOTHING);
        refused("fits(0, 4, 0)", () -> x.fits(0, 4, 0), BAD);
        x.set(0, 1, 10);
        refused("fits of a WRONG one", () -> x.fits(0, 2, 0), STUCK);
    }

    private void promise38And39() {
        make(38, "thing 1 9;thing 5 2;thing 3 4;thing 4 3;owns 0 0;owns 1 1;owns 0 2;owns 1 3");
        is("trades(0)", x.trades(0), 4);
        is("trades(1)", x.trades(1), 1);
        x.worth(0, 3, 50);
        is("trades(1) of another", x.trades(1), 3);
        x.worth(0, 3, 6);
        is("trades(1), of several the first", x.trades(1), 1);
        x.worth(1, 0, 2);
        x.worth(0, 1, 3);
        is("trades(0) of few", x.trades(0), 1);
        is("trades(1) of few", x.trades(1), 23);
        x.own(2, NONE);
        is("trades(0) of none", x.trades(0), 0);
        refused("trades(1) of none", () -> x.trades(1), STUCK);
        refused("trades(2)", () -> x.trades(2), BAD);
        refused("trades(-1)", () -> x.trades(-1), BAD);
        promise = 39;
        is("swap(1, 0)", x.swap(1, 0), 1);
        is("thingOf(0, 0)", x.thingOf(0, 0), 1);
        is("thingOf(1, 0)", x.thingOf(1, 0), 0);
        is("swap of one OWNER", x.swap(0, 3), 0);
        refused("swap(0, 2)", () -> x.swap(0, 2), STUCK);
        refused("swap(2, 0)", () -> x.swap(2, 0), STUCK);
        x.own(3, NONE);
        is("swap of no OWNER", x.swap(2, 3), 0);
        refused("swap(2, 2)", () -> x.swap(2, 2), BAD);
        refused("swap(0, 4)", () -> x.swap(0, 4), BAD);
        refused("swap(-1, 0)", () -> x.swap(-1, 0), BAD);
    }

    private void promise40() {
        make(40, "sides 3;thing 1 1 1;thing 1 1 1;thing 1 1 1;law 1;turn 2");
        is("pick(1)", x.pick(1), 2);
        is("pick(0)", x.pick(0), 2);
        is("thingOf(0, 0)", x.thingOf(0, 0), 2);
        is("status(4)", x.status(4), 4);
        refused("pick(0) again", () -> x.pick(0), STUCK);
        refused("pick(3)", () -> x.pick(3), BAD);
        refused("pick(-1)", () -> x.pick(-1), BAD);
        x.turn(1000000000);
        refused("pick(2) too late", () -> x.pick(2), STUCK);
        x.turn(999999999);
        is("pick(2) at the last", x.pick(2), 2);
        is("status(4) at the last", x.status(4), 1000000000);
    }

    private void promise41() {
        make(41, "thing 10 0;thing 9 9;thing 0 8;bent 0 5;bent 1 1");
        is("goes(1)", x.goes(1), 1);
        is("thingOf(1, 0)", x.thingOf(1, 0), 0);
        is("status(4)", x.status(4), 1);
        is("goes(8)", x.goes(8), 2);
        is("thingOf(2, 0)", x.thingOf(2, 0), 1);
        is("thingOf(0, 0)", x.thingOf(0, 0), 0);
        is("status(4) then", x.status(4), 3);
        is("goes(1) of nothing", x.goes(1), 0);
        refused("goes(0)", () -> x.goes(0), BAD);
        refused("goes(9)", () -> x.goes(9), BAD);
        x.turn(1000000000 - 7);
        refused("goes(8) too late", () -> x.goes(8), STUCK);
        refused("goes(9) too late", () -> x.goes(9), BAD);
        is("goes(7) at the last", x.goes(7), 0);
        x.own(0, NONE);
        x.turn(999999999);
        is("goes(1) at the last", x.goes(1), 1);
    }

    private void promise42() {
        make(42, "thing 1 1;thing 2 2;thing 3 3;turn 1");
        shelve(0, 1, 12, 0, 11);
        is("books(0, 0)", x.books(0, 0), 0);
        is("books(0, 2)", x.books(0, 2), 2);
        is("thingOf(2, 0)", x.thingOf(2, 0), 1);
        is("thingOf(0, 0)", x.thingOf(0, 0), 0);
        is("status(4)", x.status(4), 3);
        refused("books(0, 3) WRONG", () -> x.books(0, 3), STUCK);
        x.show(1, 0);
        refused("books(0, 9)", () -> x.books(0, 9), BAD);
        refused("books(0, -1)", () -> x.books(0, -1), BAD);
        refused("books(8, 1)", () -> x.books(8, 1), BAD);
        refused("books(1, 8)", () -> x.books(1, 8), OTHER);
        refused("books(2, 8)", () -> x.books(2, 8), NOTHING);
        refused("books(0, 4)", () -> x.books(0, 4), BAD);
        shelve(0, 1, 1);
        x.turn(1000000000);
        is("judge(0, 1)", x.judge(0, 1), NONE);
        refused("books(0, 1) too late", () -> x.books(0, 1), STUCK);
        shelve(0, 1, 11);
        x.turn(999999999);
        is("books(0, 1) at the last", x.books(0, 1), 1);
        is("status(4) at the last", x.status(4), 1000000000);
    }

    private void promise43() {
        make(43, "thing 1 1;thing 2 2;thing 3 3;owns 0 0;owns 1 2;turn 7;law 1;bent 0 2");
        is("again()", x.again(), 2);
        is("status(2)", x.status(2), 7);
        is("status(4)", x.status(4), 0);
        is("status(3)", x.status(3), 1);
        is("sideOf(0, 0)", x.sideOf(0, 0), 2);
        is("again() of none", x.again(), 0);
    }

    private void promise44And45() {
        make(44, "");
        is("deal(2)", x.deal(2), 2);
        int[] want = {38, 26, 13, 83};
        for (int i = 0; i < 4; i++) {
            is("thingOf", x.thingOf(i / 2, 1 + i % 2), want[i]);
        }
        is("thingOf(1, 0)", x.thingOf(1, 0), NONE);
        promise = 45;
        is("seed(1)", x.seed(1), -999580867);
        is("status(8)", x.status(8), 1);
        promise = 44;
        is("deal(8)", x.deal(8), 6);
        is("thingOf(2, 1)", x.thingOf(2, 1), 38);
        int seed = x.status(8);
        is("deal(8) without room", x.deal(8), 0);
        is("status(8) without room", x.status(8), seed);
        refused("deal(0)", () -> x.deal(0), BAD);
        refused("deal(9)", () -> x.deal(9), BAD);
        make(44, "sides 3");
        is("deal(1)", x.deal(1), 1);
        is("thingOf(0, 1) of three", x.thingOf(0, 1), 38);
        is("thingOf(0, 2) of three", x.thingOf(0, 2), 26);
        is("thingOf(0, 3) of three", x.thingOf(0, 3), 13);
        promise = 45;
        is("seed(low)", x.seed(LOW), 662824084);
        is("seed(0)", x.seed(0), LOW);
    }

    private void promise46And47() {
        make(47, "");
        refused("back() of nothing", () -> x.back(), STUCK);
        make(46, "sides 3;thing 1 2 3;thing 4 5 6;owns 2 1;law 3;order 2 1;turn 77;bent 2 3");
        x.seed(99);
        shelve(0, 0, 5);
        x.feed(97);
        x.law(9);
        String before = all();
        is("image()", x.image(), 1);
        d.that("image() changes nothing", before.equals(all()));
        promise = 47;
        shelve(0, 3, 1L << 40);
        x.show(1, 2);
        x.feed(98);
        x.law(9);
        x.thing(7, 7, 7);
        x.worth(1, 0, 50);
        x.own(0, 0);
        x.law(1);
        x.bent(2, 0);
        x.bent(0, 4);
        x.turn(3);
        x.seed(5);
        shelve(2, 0, 0, 0, 0);
        x.order(2, 3);
        for (int i = 0; i < 2; i++) {
            is("back()", x.back(), 1);
            int[] want = {3, 2, 1, 3, 77, 2, 6, 2, 99, 3, -1, -1, 2, 0, 0, 0, 0};
            for (int k = 0; k < want.length; k++) {
                is("status(" + k + ") again", x.status(k), want[k]);
            }
            is("thingOf(0, 2)", x.thingOf(0, 2), 2);
            is("thingOf(0, 0)", x.thingOf(0, 0), NONE);
            is("thingOf(1, 0)", x.thingOf(1, 0), 2);
            is("sideOf(2, 0)", x.sideOf(2, 0), 3);
            is("sideOf(0, 0)", x.sideOf(0, 0), 0);
            is("whose(3, 0)", x.whose(3, 0), 2);
            is("whose(3, 1)", x.whose(3, 1), 1);
            is("element(0, 0)", x.element(0, 0), 1L << 40);
            is("holds(1)", x.holds(1), 13);
            x.thing(1, 1, 1);
            x.turn(12);
            x.worth(0, 0, 98);
        }
        is("image() later", x.image(), 1);
        x.again();
        is("back() to the later one", x.back(), 1);
        is("status(1) of the later one", x.status(1), 3);
        is("status(4) of the later one", x.status(4), 12);
        is("thingOf(0, 1) of the later one", x.thingOf(0, 1), 98);
    }

    private void promise48() {
        make(48, "sides 3;thing 9 0 0;thing 0 5 0;thing 0 0 1;owns 0 0;owns 1 1;owns 2 2;order 0 1 2 1;turn 4;law 2");
        x.feed(1);
        x.show(4, 0);
        x.row(5, 0, 0);
        int[] want = {3, 3, 0, 2, 4, 4, 8, 1, 1, 2, -1, -1, 0, 0, 0, 0, 0, -1, -1};
        for (int i = 0; i < want.length; i++) {
            is("status(" + i + ")", x.status(i), want[i]);
        }
        is("status(-1)", x.status(-1), NONE);
        is("status(low)", x.status(LOW), NONE);
        is("status(high)", x.status(HIGH), NONE);
        x.law(4);
        x.set(4, 0, 0);
        x.set(4, 0, 0);
        x.set(0, 0, 0);
        x.back();
        x.back();
        x.back();
        x.deal(5);
        x.thing(1, 1, 1);
        int[] counts = {1, 2, 1, 3, 1};
        for (int i = 0; i < 5; i++) {
            is("status(" + (12 + i) + ")", x.status(12 + i), counts[i]);
        }
    }

    public static void main(String[] args) {
        PromisesTest t = new PromisesTest();
        t.promise1();
        t.promise2();
        t.promise3();
        t.promise4();
        t.promise5();
        t.promise6();
        t.promise7();
        t.promise8();
        t.promise9();
        t.promise10();
        t.promise11();
        t.promise12();
        t.promise13();
        t.promise14();
        t.promise15();
        t.promise16();
        t.promise17And18();
        t.promise19();
        t.promise20And21();
        t.promise22();
        t.promise23();
        t.promise24();
        t.promise25();
        t.promise26();
        t.promise27To29();
        t.promise30And31();
        t.promise32And33();
        t.promise34();
        t.promise35And36();
        t.promise37();
        t.promise38And39();
        t.promise40();
        t.promise41();
        t.promise42();
        t.promise43();
        t.promise44And45();
        t.promise46And47();
        t.promise48();
        t.d.end();
    }
}
