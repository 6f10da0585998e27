import java.lang.management.ManagementFactory;
import java.lang.reflect.Constructor;
import java.lang.reflect.Field;
import java.lang.reflect.Method;
import java.lang.reflect.Modifier;
import java.nio.file.Files;
import java.nio.file.Path;
import java.util.ArrayList;
import java.util.Arrays;
import java.util.List;
import java.util.Set;
import java.util.TreeSet;
import java.util.regex.Matcher;
import java.util.regex.Pattern;

/** The public face, what of LANGUAGE.md can be read off the source, and that calls make nothing new. */
public final class RulesTest {
    private static final String FACE = "int row(int,int,int)|int set(int,int,long)|int copy(int,int,int,int,int)"
            + "|long element(int,int)|int holds(int)|int show(int,int)|int says(int,int)|int sides(int)"
            + "|int thing(int,int,int)|int worth(int,int,int)|int bent(int,int)|int law(int)|int order(int,int)"
            + "|int turn(int)|int own(int,int)|int feed(int)|int wipe()|int estate()|int thingOf(int,int)"
            + "|int sideOf(int,int)|int whose(int,int)|int runs(int,int)|long powers(int,int,int)|int rival(int)"
            + "|int takes(int)|int run(int,int)|int gets(int,int)|int unequal(int)|int game(int,int)"
            + "|int opening(int)|int fairest(int)|int best()|int sham(int,int)|int judge(int,int)"
            + "|int stolen(int,int)|int fits(int,int,int)|int trades(int)|int swap(int,int)|int pick(int)"
            + "|int goes(int)|int books(int,int)|int again()|int deal(int)|int seed(int)|int image()|int back()"
            + "|int status(int)";
    private static final String[] NOT_IN_IT = {"\\bthrow\\b", "\\bthrows\\b", "\\btry\\b", "\\bcatch\\b",
        "\\bsynchronized\\b", "\\bassert\\b", "\\bimport\\s+(?!java\\.util\\.)", "->", "::", "\\bSystem\\.(?!arraycopy)",
        "\\bObject\\b", "\\bException\\b", "\\bstatic\\s*\\{", "Exact\\b", "\\bvolatile\\b", "\"\\s*\\+", "\\+\\s*\"",
        "[^\\x00-\\x7f]", "\\bpackage\\b", "\\bhashCode\\b", "\\bRandom\\b", "\\bThread\\b", "\\bjava\\.(?!util\\.)"};
    // All calls of a run live in one room of so many fields and elements.
    private static final long ROOM = 7300000L;

    private final Due d = new Due("RulesTest");

    private void face() {
        Class<?> c = FirstAtTheFirst.class;
        d.that("public and final", Modifier.isPublic(c.getModifiers()) && Modifier.isFinal(c.getModifiers()));
        Set<String> found = new TreeSet<>();
        Set<String> names = new TreeSet<>();
        for (Method m : c.getDeclaredMethods()) {
            if (!Modifier.isPrivate(m.getModifiers())) {
                StringBuilder told = new StringBuilder(m.getReturnType() + " " + m.getName() + "(");
                for (int i = 0; i < m.getParameterCount(); i++) {
                    told.append(i == 0 ? "" : ",").append(m.getParameterTypes()[i]);
                }
                found.add(told.append(")").toString());
                names.add(m.getName());
                d.due("modifiers of " + m.getName(), m.getModifiers(), Modifier.PUBLIC);
            }
        }
        Set<String> want = new TreeSet<>(Arrays.asList(FACE.split("\\|")));
        d.due("how many methods", found.size(), 47);
        d.that("the face is " + want + ", not " + found, want.equals(found));
        for (Method m : privateMethods(c)) {
            d.that("no private method is named " + m.getName(), !names.contains(m.getName()));
            d.that("at most seven parameters: " + m.getName(), m.getParameterCount() <= 7);
        }
        for (Field f : c.getDeclaredFields()) {
            boolean isNone = f.getName().equals("NONE");
            d.that("field " + f.getName(), Modifier.isPrivate(f.getModifiers()) != isNone);
        }
        d.due("constructors", c.getDeclaredConstructors().length, 1);
        for (Constructor<?> k : c.getDeclaredConstructors()) {
            d.that("the constructor", Modifier.isPublic(k.getModifiers()) && k.getParameterCount() == 0);
        }
        d.due("NONE", FirstAtTheFirst.NONE, -1);
        classes(c);
    }

    private static List<Method> privateMethods(Class<?> c) {
        List<Method> found = new ArrayList<>();
        for (Method m : c.getDeclaredMethods()) {
            if (Modifier.isPrivate(m.getModifiers())) {
                found.add(m);
            }
        }
        for (Class<?> inside : c.getDeclaredClasses()) {
            for (Method m : inside.getDeclaredMethods()) {
                if (Modifier.isPrivate(m.getModifiers())) {
                    found.add(m);
                }
            }
        }
        return found;
    }

    private void classes(Class<?> c) {
        d.that("some twelve classes", c.getDeclaredClasses().length < 14);
        List<Class<?>> all = new ArrayList<>(Arrays.asList(c.getDeclaredClasses()));
        for (Class<?> inside : all) {
            d.that(inside + " is static", Modifier.isStatic(inside.getModifiers()));
            d.that(inside + " isn't public", !Modifier.isPublic(inside.getModifiers()));
        }
        all.add(c);
        for (Class<?> one : all) {
            int fields = 0;
            for (Field f : one.getDeclaredFields()) {
                boolean isConstant = Modifier.isStatic(f.getModifiers());
                fields += isConstant ? 0 : 1;
                d.that(f + " is final if static", !isConstant || Modifier.isFinal(f.getModifiers()));
            }
            d.that(one + " has some twenty fields", fields <= 22);
        }
    }

    private void source() throws Exception {
        String text = Files.readString(Path.of("src/main/java/FirstAtTheFirst.java"));
        String code = text.replaceAll("(?s)/\\*.*?\\*/", "").replaceAll("//[^\n]*", "")
                .replaceAll("(case [^:\n>]*|default )->", "$1:");
        for (String unwanted : NOT_IN_IT) {
            Matcher m = Pattern.compile(unwanted).matcher(code);
            d.that("no " + unwanted + " in the source", !m.find());
        }
        String[] lines = text.split("\n");
        for (int i = 0; i < lines.length; i++) {
            Matcher head = Pattern.compile("( {4}| {8})[a-z].*\\) \\{").matcher(lines[i]);
            if (head.matches()) {
                int end = i;
                while (end < lines.length && !lines[end].equals(head.group(1) + "}")) {
                    end++;
                }
                d.that("short from line " + (i + 1) + " on", end - i <= 66 || lines[i].matches(" {8}(for|if).*"));
            }
        }
    }

    /** All calls there are, with things that make them think hardest; what they answer is of no account. */
    private static long callAll(FirstAtTheFirst x) {
        long sum = x.wipe() + x.sides(3) + x.deal(8) + x.image();
        for (int side = 0; side < 3; side++) {
            sum += x.bent(side, 5 - side) + x.sham(side, 0) + x.takes(side) + x.rival(side) + x.show(side + 2, side);
            sum += x.says(side + 2, 0) + x.gets(side, side) + x.game(side, side) + x.sideOf(side, 1);
        }
        sum += x.row(0, 2, 40) + x.set(0, 1, 1) + x.copy(0, 0, 0, 1, 8) + x.element(0, 0) + x.holds(0);
        sum += x.order(0, 12) + x.worth(0, 0, 1) + x.law(1) + x.law(0) + x.own(0, NONE) + x.thingOf(0, 0);
        for (char c : LETTERS) {
            sum += x.feed(c);
        }
        sum += x.estate() + x.whose(2, 1000000000) + x.runs(2, 4000) + x.powers(2, 1000, 3) + x.run(1, 7);
        sum += x.unequal(2) + x.opening(2) + x.fairest(0) + x.best() + x.judge(0, 8) + x.stolen(0, 8);
        sum += x.fits(0, 1, 0) + x.goes(3) + x.trades(1) + x.swap(0, 1) + x.pick(2) + x.books(0, 1) + x.again();
        return sum + x.turn(0) + x.seed(7) + x.thing(1, 1, 1) + x.back() + x.status(6);
    }

    private static final int NONE = FirstAtTheFirst.NONE;
    private static final char[] LETTERS = "law 2;bent 1 5;order 0 1 2;turn 77;owns 0 3;owns 1 1 ?".toCharArray();

    private void room() {
        var bean = (com.sun.management.ThreadMXBean) ManagementFactory.getThreadMXBean();
        long sum = callAll(new FirstAtTheFirst());
        long before = bean.getCurrentThreadAllocatedBytes();
        FirstAtTheFirst x = new FirstAtTheFirst();
        for (int i = 0; i < 4; i++) {
            sum += callAll(x);
        }
        long made = bean.getCurrentThreadAllocatedBytes() - before;
        d.that("four times all calls make " + made + " bytes (sum " + sum + ")", made < 8 * ROOM);
        before = bean.getCurrentThreadAllocatedBytes();
        x = new FirstAtTheFirst();
        sum = x.sides(3) + x.deal(8) + x.bent(0, 5) + x.bent(1, 5) + x.bent(2, 5);
        for (int i = 0; i < 100; i++) {
            sum += x.fairest(7) + x.best() + x.game(0, 0) + x.takes(0) + x.runs(2, 4000);
        }
        made = bean.getCurrentThreadAllocatedBytes() - before;
        d.that("five hundred dear calls make " + made + " bytes (sum " + sum + ")", made < 8 * ROOM);
    }

    public static void main(String[] args) throws Exception {
        Due.mustEndWithin(300);
        RulesTest t = new RulesTest();
        t.face();
        t.source();
        t.room();
        t.d.end();
    }
}
