import java.lang.reflect.Method;
import java.util.ArrayList;
import java.util.List;
import java.util.regex.Matcher;
import java.util.regex.Pattern;

/**
 * A run of calls on a new object, told by a text: each call with the answer that is due.
 *
 * <pre>
 *   law(2)=0             a call, and what it should answer
 *   law(2)               a call that isn't refused
 *   law(4)!-2            a refused call: it answers this, counts itself, and changes nothing else
 *   whose(0,0..3)=0,1,0,1   one call for each of 0 to 3; one answer for all of them, or one for each
 *   law(-1|4|high)!-2    one call for each of these; low and high are the least and the greatest int
 *   feed(32)*5=5         five calls; the answer is the last one's
 *   {3 2: 7 8}           SHELF 3 gets a ROW of SORT 2 with these elements
 *   'law 1;turn 2'=2     the text is fed to THE TAPE, and estate() answers this
 *   'law ^4'!            the text without the ^ is fed, and its FAULT is where the ^ stood
 * </pre>
 *
 * That a refused call changes nothing is looked at on twins: new objects with the same calls ahead,
 * one with the refused call, one without. So no object gets more than 512 calls.
 */
final class Script {
    private static final int CALLS_MOST = 512;
    private static final Pattern ITEM = Pattern.compile("\\s+|'([^']*)'(=\\d+|!)?"
            + "|\\{(\\d) (\\d):([^}]*)\\}|(\\w+)\\(([^)]*)\\)(?:\\*(\\d+))?(?:([=!])([-0-9,]+))?");
    private static final List<List<Call>> LOOKS = List.of(
            calls("status(0..9) thingOf(0..7,0..3) sideOf(0..2,0..2) whose(3,0..11) whose(0..2,0..5) rival(0..2)"),
            calls("holds(0..7) element(0..2,0..39)"),
            calls("says(0..7,0) element(3..5,0..39)"),
            calls("element(6..7,0..39) trades(0..1)"),
            calls("back() status(0..9) thingOf(0..7,0..3) sideOf(0..2,0..2) whose(3,0..11)"),
            calls("estate() status(0..9) thingOf(0..7,0..3) deal(8) thingOf(0..7,0..3) status(8)"));

    private record Call(Method method, Object[] args, String told) {
        long on(FirstAtTheFirst x) {
            try {
                return ((Number) method.invoke(x, args)).longValue();
            } catch (ReflectiveOperationException e) {
                throw new IllegalStateException(told + " threw", e);
            }
        }
    }

    /** What is due: an answer, a refusal, no refusal, or anything. */
    private enum Kind { ANSWER, REFUSAL, NO_REFUSAL, ANYTHING }

    private record Step(Call call, Kind kind, long answer) {
    }

    private final List<Step> steps = new ArrayList<>();
    private final String text;

    Script(String text) {
        this.text = text;
        Matcher m = ITEM.matcher(text);
        int end = 0;
        while (end < text.length()) {
            if (!m.find() || m.start() != end || m.end() == end) {
                throw new IllegalArgumentException("can't be read: " + text.substring(end));
            }
            end = m.end();
            if (m.group(1) != null) {
                readTape(m.group(1), m.group(2));
            } else if (m.group(3) != null) {
                readRow(m.group(3), m.group(4), m.group(5));
            } else if (m.group(6) != null) {
                readCalls(m);
            }
        }
    }

    private void add(String name, Kind kind, long answer, String... args) {
        steps.add(new Step(callOf(name, args), kind, answer));
    }

    private void readTape(String marked, String due) {
        int fault = marked.indexOf('^');
        String fed = fault < 0 ? marked : marked.substring(0, fault) + marked.substring(fault + 1);
        for (char c : fed.toCharArray()) {
            add("feed", Kind.NO_REFUSAL, 0, Integer.toString(c));
        }
        if ("!".equals(due)) {
            add("estate", Kind.REFUSAL, -20 - fault);
        } else if (due != null) {
            add("estate", Kind.ANSWER, Long.parseLong(due.substring(1)));
        }
    }

    private void readRow(String s, String sort, String elements) {
        String[] told = elements.isBlank() ? new String[0] : elements.trim().split("\\s+");
        add("row", Kind.ANSWER, 1, s, sort, Integer.toString(told.length));
        for (int i = 0; i < told.length; i++) {
            add("set", Kind.ANSWER, 1, s, Integer.toString(i), told[i]);
        }
    }

    private void readCalls(Matcher m) {
        List<Call> calls = expand(m.group(6), m.group(7));
        int times = m.group(8) == null ? 1 : Integer.parseInt(m.group(8));
        for (int i = 1; i < times; i++) {
            for (Call call : calls) {
                steps.add(new Step(call, Kind.ANYTHING, 0));
            }
        }
        String[] dues = m.group(10) == null ? new String[0] : m.group(10).split(",");
        if (dues.length > 1 && dues.length != calls.size()) {
            throw new IllegalArgumentException("as many answers as calls: " + m.group());
        }
        Kind kind = dues.length == 0 ? Kind.NO_REFUSAL : m.group(9).equals("=") ? Kind.ANSWER : Kind.REFUSAL;
        for (int i = 0; i < calls.size(); i++) {
            long answer = dues.length == 0 ? 0 : Long.parseLong(dues[dues.length == 1 ? 0 : i]);
            steps.add(new Step(calls.get(i), kind, answer));
        }
    }

    private static List<Call> calls(String text) {
        List<Call> found = new ArrayList<>();
        for (String item : text.split(" ")) {
            int open = item.indexOf('(');
            found.addAll(expand(item.substring(0, open), item.substring(open + 1, item.length() - 1)));
        }
        return found;
    }

    private static List<Call> expand(String name, String args) {
        List<List<String>> lists = new ArrayList<>(List.of(List.of()));
        for (String arg : args.isEmpty() ? new String[0] : args.split(",")) {
            List<List<String>> longer = new ArrayList<>();
            for (List<String> list : lists) {
                for (String one : alternatives(arg)) {
                    List<String> with = new ArrayList<>(list);
                    with.add(one);
                    longer.add(with);
                }
            }
            lists = longer;
        }
        List<Call> calls = new ArrayList<>();
        for (List<String> list : lists) {
            calls.add(callOf(name, list.toArray(new String[0])));
        }
        return calls;
    }

    private static List<String> alternatives(String arg) {
        int dots = arg.indexOf("..");
        if (dots < 0) {
            return List.of(arg.split("\\|"));
        }
        List<String> all = new ArrayList<>();
        int to = Integer.parseInt(arg.substring(dots + 2));
        for (int i = Integer.parseInt(arg.substring(0, dots)); i <= to; i++) {
            all.add(Integer.toString(i));
        }
        return all;
    }

    private static Call callOf(String name, String... args) {
        for (Method method : FirstAtTheFirst.class.getMethods()) {
            if (method.getName().equals(name) && method.getParameterCount() == args.length) {
                Object[] values = new Object[args.length];
                for (int i = 0; i < args.length; i++) {
                    boolean isLong = method.getParameterTypes()[i] == long.class;
                    values[i] = isLong ? (Object) number(args[i]) : (Object) Math.toIntExact(number(args[i]));
                }
                return new Call(method, values, name + "(" + String.join(", ", args) + ")");
            }
        }
        throw new IllegalArgumentException("no call " + name + " of " + args.length);
    }

    private static long number(String told) {
        return switch (told) {
            case "NONE" -> FirstAtTheFirst.NONE;
            case "low" -> Integer.MIN_VALUE;
            case "high" -> Integer.MAX_VALUE;
            case "lowest" -> Long.MIN_VALUE;
            case "highest" -> Long.MAX_VALUE;
            default -> Long.parseLong(told);
        };
    }

    void run(Due due, String sentence) {
        String name = sentence + "\n    " + text + "\n    ";
        due.that(name + "at most 512 calls", steps.size() <= CALLS_MOST);
        FirstAtTheFirst x = new FirstAtTheFirst();
        for (Step step : steps) {
            long got = step.call.on(x);
            String told = name + step.call.told;
            if (step.kind == Kind.NO_REFUSAL) {
                due.that(told + " (" + got + ") isn't refused", got > -2 || got < -6);
            } else if (step.kind != Kind.ANYTHING) {
                due.due(told, got, step.answer);
            }
        }
        for (int i = 0; i < steps.size(); i++) {
            if (steps.get(i).kind == Kind.REFUSAL) {
                compareTwins(due, name + steps.get(i).call.told, i);
            }
        }
    }

    private FirstAtTheFirst twin(int calls) {
        FirstAtTheFirst x = new FirstAtTheFirst();
        for (int i = 0; i < calls; i++) {
            steps.get(i).call.on(x);
        }
        return x;
    }

    private void compareTwins(Due due, String name, int refused) {
        boolean isEstate = steps.get(refused).call.method.getName().equals("estate");
        // A refusal is the last digit of what a call answers, but of estate() it is always BAD.
        long number = isEstate ? -2 : steps.get(refused).answer % 10;
        for (List<Call> looks : LOOKS) {
            due.that(name + ": few enough calls for its twins", refused + looks.size() + 6 <= CALLS_MOST);
            FirstAtTheFirst with = twin(refused + 1);
            FirstAtTheFirst without = twin(refused);
            if (isEstate) {
                without.wipe();
            }
            for (int i = 0; i < 5; i++) {
                long more = with.status(12 + i) - without.status(12 + i);
                due.due(name + ", how many more are in status(" + (12 + i) + ")", more, -2 - i == number ? 1 : 0);
            }
            for (Call look : looks) {
                due.due(name + ", then " + look.told, look.on(with), look.on(without));
            }
        }
    }
}
