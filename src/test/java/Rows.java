import java.lang.reflect.Method;
import java.util.ArrayList;
import java.util.HashMap;
import java.util.List;
import java.util.Map;
import java.util.regex.Matcher;
import java.util.regex.Pattern;

/**
 * Calls on one new object, told as rows of text:
 * <pre>
 *   letters(2) = 3           the answer that is due: a number, or its name (NONE, BAD, .. , float 1.5, double 4/3)
 *   of(0, *) = 1 2 0 0       of(0, 0), of(0, 1), .. with the answers that are due
 *   read "0:a;g0" = 2        feeds the text and reads it
 *   feed "0:a"               feeds the text
 *   set(0, 1, 2)             a call, whatever it answers
 *   99 times feed(120)       so many of them
 * </pre>
 */
final class Rows {
    /** The document promises nothing beyond, so that a test must not ask more of one object. */
    private static final int MOST_CALLS = 512;
    private static final Pattern TEXT = Pattern.compile("(feed|read) \"(.*)\"(?: = (.+))?");
    private static final Pattern CALL = Pattern.compile("(?:(\\d+) times )?(\\w+)\\((.*)\\)(?: = (.+))?");
    private static final Map<String, Method> FACE = new HashMap<>();
    private static final List<String> NUMBERED = List.of("", "OuterIdeals", "letters", "prime", "order", "set", "product",
        "mix", "becomes", "generate", "clear", "feed", "read", "of", "told", "generator", "places", "lead", "rank",
        "basis", "within", "rest", "count", "series", "mean", "annihilator", "annihilates", "step", "fits", "odds",
        "event", "after", "book", "looked", "judge", "image", "undo", "counted", "tape", "item", "peek", "shift");
    private static final Map<String, Long> NAMED = Map.ofEntries(
        Map.entry("NONE", -1L), Map.entry("BAD", -2L), Map.entry("STATE", -3L), Map.entry("FULL", -4L),
        Map.entry("NOTHING", -11L), Map.entry("CAST", -12L), Map.entry("PLACE", -13L), Map.entry("SIZE", -14L),
        Map.entry("NO", Long.MIN_VALUE), Map.entry("MIN", (long) Integer.MIN_VALUE),
        Map.entry("MAX", (long) Integer.MAX_VALUE), Map.entry("LMIN", Long.MIN_VALUE),
        Map.entry("LMAX", Long.MAX_VALUE));

    static {
        for (Method method : OuterIdeals.class.getDeclaredMethods()) {
            if (NUMBERED.contains(method.getName())) {
                FACE.put(method.getName(), method);
            }
        }
    }

    private final OuterIdeals x = new OuterIdeals();
    private final List<String> wrong = new ArrayList<>();
    private int calls = 0;

    /** What was answered otherwise than is due, a line each. */
    List<String> wrong() {
        return wrong;
    }

    void play(String rows) {
        for (String line : rows.split("\n")) {
            if (!line.isBlank()) {
                playRow(line.strip());
            }
        }
    }

    private void playRow(String row) {
        Matcher text = TEXT.matcher(row);
        Matcher call = CALL.matcher(row);
        if (text.matches()) {
            playText(text.group(1), text.group(2), text.group(3));
        } else if (call.matches()) {
            int times = call.group(1) == null ? 1 : Integer.parseInt(call.group(1));
            for (int i = 0; i < times; i++) {
                playCall(call.group(2), call.group(3), call.group(4));
            }
        } else {
            throw new IllegalArgumentException("no row: " + row);
        }
    }

    private void playText(String name, String text, String due) {
        for (int i = 0; i < text.length(); i++) {
            call("feed", text.charAt(i));
        }
        if (name.equals("read")) {
            compare("read", "\"" + text + "\"", call("read"), due);
        }
    }

    private void playCall(String name, String args, String due) {
        if (!args.contains("*")) {
            compare(name, args, call(name, numbers(args)), due);
            return;
        }
        String[] dues = due.split(" ");
        for (int i = 0; i < dues.length; i++) {
            playCall(name, args.replace("*", "" + i), dues[i]);
        }
    }

    private void compare(String name, String args, long got, String due) {
        if (due != null && got != number(due)) {
            wrong.add("promise " + NUMBERED.indexOf(name) + ": " + name + "(" + args + ") answered " + got + ", due is " + due);
        }
    }

    private static long[] numbers(String args) {
        String[] parts = args.isBlank() ? new String[0] : args.split(", ");
        long[] numbers = new long[parts.length];
        for (int i = 0; i < parts.length; i++) {
            numbers[i] = number(parts[i]);
        }
        return numbers;
    }

    private static long number(String told) {
        if (told.startsWith("float ")) {
            return Float.floatToIntBits(Float.parseFloat(told.substring(6)));
        }
        if (told.startsWith("double ")) {
            String[] parts = told.substring(7).split("/");
            double below = parts.length > 1 ? Double.parseDouble(parts[1]) : 1.0;
            return Double.doubleToLongBits(Double.parseDouble(parts[0]) / below);
        }
        return NAMED.containsKey(told) ? NAMED.get(told) : Long.parseLong(told);
    }

    long call(String name, long... numbers) {
        calls++;
        if (calls > MOST_CALLS) {
            throw new IllegalStateException("more than " + MOST_CALLS + " calls");
        }
        Method method = FACE.get(name);
        Object[] args = new Object[numbers.length];
        for (int i = 0; i < args.length; i++) {
            boolean wide = method.getParameterTypes()[i] == long.class;
            args[i] = wide ? (Object) numbers[i] : (Object) Math.toIntExact(numbers[i]);
        }
        try {
            return ((Number) method.invoke(x, args)).longValue();
        } catch (ReflectiveOperationException thrown) {
            throw new IllegalStateException(name + " threw " + thrown.getCause(), thrown);
        }
    }

    /** All that the object tells of itself, so that two can be compared; it is used up by this. */
    List<Long> tale() {
        List<Long> tale = new ArrayList<>();
        tellState(tale);
        tale.add(call("read"));
        tellElements(tale);
        tale.add(call("undo"));
        tellState(tale);
        tellSorts(tale);
        return tale;
    }

    private void tellState(List<Long> tale) {
        tellElements(tale);
        for (int side = 0; side < 3; side++) {
            tale.add(call("counted", side));
            tale.add(call("rank", side));
            tale.add(call("mean", side));
            tale.add(call("after", 0, side));
        }
        tale.add(call("after", 2, 0));
        tale.add(call("looked"));
        for (int tape = 0; tape < 6; tape++) {
            long item = 0;
            for (int i = 0; item != OuterIdeals.NO; i++) {
                item = call("peek", tape, i);
                tale.add(item);
            }
        }
    }

    private void tellElements(List<Long> tale) {
        for (int what = 0; what < 5; what++) {
            tale.add(call("told", what));
        }
        long generators = tale.get(tale.size() - 2);
        long places = tale.get(tale.size() - 1);
        for (int place = 0; place < places; place++) {
            for (int element = 0; element < 6; element++) {
                tale.add(call("of", element, place));
            }
            for (int generator = 0; generator < generators; generator++) {
                tale.add(call("generator", generator, place));
            }
        }
    }

    /** A row's sort is seen by what becomes of a number that is too wide for all but one. */
    private void tellSorts(List<Long> tale) {
        for (int tape = 0; tape < 6; tape++) {
            tale.add(call("item", tape, 0, 0x1234_5678_9abc_def0L));
            tale.add(call("peek", tape, 0));
        }
    }
}
