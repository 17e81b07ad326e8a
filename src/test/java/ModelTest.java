import java.lang.reflect.Method;
import java.lang.reflect.Modifier;
import java.util.ArrayList;
import java.util.Arrays;
import java.util.Comparator;
import java.util.HashMap;
import java.util.List;
import java.util.Map;
import java.util.Random;

/** All promises: runs of 512 calls by fixed seeds, each answer compared with that of the Model. */
public final class ModelTest {
    private static final int CALLS = 512;
    private static final Check CHECK = new Check("ModelTest");

    private final Random random;
    private final OuterIdeals x = new OuterIdeals();
    private final Model model = new Model();
    private final List<Method> calls = new ArrayList<>();
    private final Map<String, Method> twins = new HashMap<>();
    private final String run;
    private int made = 0;
    private final StringBuilder told = new StringBuilder();

    private ModelTest(long seed) {
        random = new Random(seed);
        run = "seed " + seed;
        for (Method method : OuterIdeals.class.getDeclaredMethods()) {
            if (Modifier.isPublic(method.getModifiers())) {
                calls.add(method);
            }
        }
        calls.sort(Comparator.comparing(Method::getName));
        for (Method method : Model.class.getDeclaredMethods()) {
            if (Modifier.isPublic(method.getModifiers())) {
                twins.put(method.getName(), method);
            }
        }
    }

    public static void main(String[] args) throws Exception {
        int runs = args.length > 0 ? Integer.parseInt(args[0]) : 400;
        long first = args.length > 1 ? Long.parseLong(args[1]) : 1;
        for (long seed = first; seed < first + runs && !CHECK.anyWrong(); seed++) {
            new ModelTest(seed).run();
        }
        CHECK.end();
    }

    private void run() throws Exception {
        if (random.nextInt(4) != 0) {
            call("letters", 2 + random.nextInt(3));
            call("prime", new int[] {2, 3, 5, 7}[random.nextInt(4)]);
        }
        while (made < CALLS && !CHECK.anyWrong()) {
            int dice = random.nextInt(100);
            if (dice < 6) {
                readText();
            } else if (dice < 9) {
                generateAnew();
            } else if (dice < 12) {
                tellTapeOfElement();
            } else if (dice < 14) {
                bookWhatIs();
            } else {
                callAny();
            }
        }
    }

    // ---- one call

    private void call(String name, Object... given) throws Exception {
        if (made >= CALLS) {
            return;
        }
        made++;
        Method method = null;
        for (Method candidate : calls) {
            method = candidate.getName().equals(name) ? candidate : method;
        }
        Object[] args = given.clone();
        for (int i = 0; i < args.length; i++) {
            if (method.getParameterTypes()[i] == long.class) {
                args[i] = ((Number) args[i]).longValue();
            }
        }
        long want = ((Number) twins.get(name).invoke(model, args)).longValue();
        told.append(name).append(Arrays.toString(args)).append(" -> ").append(want).append('\n');
        long got = ((Number) method.invoke(x, args)).longValue();
        CHECK.due(run + " call " + made + " " + name + Arrays.toString(args), got, want);
        if (CHECK.anyWrong()) {
            System.out.println(told);
        }
    }

    private void callAny() throws Exception {
        Method method = calls.get(random.nextInt(calls.size()));
        String name = method.getName();
        if ((name.equals("letters") || name.equals("prime") || name.equals("clear")) && random.nextInt(6) != 0) {
            return;
        }
        Object[] args = new Object[method.getParameterCount()];
        for (int i = 0; i < args.length; i++) {
            args[i] = argument(name, i);
            if (random.nextInt(60) == 0) {
                args[i] = odd();
            }
        }
        call(name, args);
    }

    private int odd() {
        int[] all = {Integer.MIN_VALUE, Integer.MAX_VALUE, -1, -2, -3, 16, 17, 60, 61, 100, 128, Integer.MAX_VALUE - 5};
        return all[random.nextInt(all.length)];
    }

    /** Mostly numbers that there are, and a few beyond. */
    private int argument(String name, int i) {
        int places = model.told(4);
        switch (name + i) {
            case "letters0":
                return random.nextInt(7);
            case "prime0":
                return random.nextInt(9);
            case "feed0":
                return "0123456789:;+-abcdxgnpo".charAt(random.nextInt(23));
            case "series1":
            case "series2":
                return random.nextInt(101);
            case "set2":
            case "mix2":
            case "mix4":
                return random.nextInt(3) == 0 ? random.nextInt() : random.nextInt(15) - 7;
            case "book0":
                return random.nextInt(20) == 0 ? -1 : 100 * random.nextInt(7) + random.nextInt(places + 1);
            case "book1":
                return random.nextInt(8);
            case "event0":
                return random.nextInt(30) == 0 ? -1 : random.nextInt(6);
            case "event1":
                return random.nextInt(7) - (random.nextInt(10) == 0 ? 1 : 0);
            case "tape1":
                return random.nextInt(3) == 0 ? random.nextInt(7) - 1 : random.nextInt(2);
            case "tape2":
                return random.nextInt(64) - 2;
            case "item1":
            case "peek1":
            case "shift1":
            case "shift3":
            case "shift4":
                return random.nextInt(random.nextBoolean() ? 12 : 64) - (random.nextInt(10) == 0 ? 1 : 0);
            case "item2":
                return random.nextInt(3) == 0 ? random.nextInt() : random.nextInt(7);
            case "judge2":
                return random.nextInt(6) - (random.nextInt(10) == 0 ? 1 : 0);
            case "basis1":
            case "annihilates2":
                return random.nextInt(places + 2) - 1;
            default:
                break;
        }
        if (List.of("set1", "of1", "generator1", "places0", "places1", "basis2", "rest2", "annihilates3", "fits2")
                .contains(name + i)) {
            return random.nextInt(places + 2) - 1;
        }
        if (List.of("rank0", "basis0", "within0", "rest0", "count0", "series0", "mean0", "annihilator0", "annihilates0",
                "fits0", "odds0", "after0").contains(name + i)) {
            return random.nextInt(15) == 0 ? random.nextInt(6) - 2 : random.nextInt(3);
        }
        if (List.of("annihilator1", "annihilates1", "fits3", "odds1", "order0").contains(name + i)) {
            return random.nextInt(12) == 0 ? random.nextInt(5) - 1 : random.nextInt(2);
        }
        return random.nextInt(20) == 0 ? random.nextInt(10) - 2 : random.nextInt(6);
    }

    // ---- several calls that belong together

    private void readText() throws Exception {
        String text = text();
        for (int i = 0; i < text.length(); i++) {
            call("feed", (int) text.charAt(i));
        }
        if (random.nextInt(12) != 0) {
            call("read");
        }
    }

    private String text() {
        StringBuilder text = new StringBuilder();
        int clauses = random.nextInt(15) == 0 ? 10 + random.nextInt(5) : 1 + random.nextInt(4);
        for (int i = 0; i < clauses; i++) {
            text.append(i > 0 ? ";" : "").append(clauses > 9 && random.nextInt(3) != 0 ? "g1" : clause());
        }
        if (random.nextInt(5) == 0) {
            int at = random.nextInt(text.length() + 1);
            text.insert(at, "0123456789:;+-abcdxgnpo ez".charAt(random.nextInt(26)));
        }
        if (random.nextInt(8) == 0) {
            text.setLength(random.nextInt(text.length() + 1));
        }
        if (random.nextInt(8) == 0 && text.length() > 0) {
            text.deleteCharAt(random.nextInt(text.length()));
        }
        return text.toString();
    }

    private String clause() {
        switch (random.nextInt(12)) {
            case 0:
                return random.nextBoolean() ? "x" : "o" + random.nextInt(3);
            case 1:
                return random.nextInt(3) == 0 ? "n" + random.nextInt(6) : "o" + random.nextInt(3);
            case 2:
                return random.nextInt(3) == 0 ? "p" + random.nextInt(9) : "x";
            case 3:
            case 4:
            case 5:
                return "g" + random.nextInt(random.nextInt(10) == 0 ? 10 : 6);
            default:
                return random.nextInt(random.nextInt(10) == 0 ? 10 : 6) + ":" + sum();
        }
    }

    private String sum() {
        StringBuilder sum = new StringBuilder(random.nextInt(4) == 0 ? "-" : "");
        int terms = 1 + random.nextInt(3);
        for (int i = 0; i < terms; i++) {
            sum.append(i == 0 ? "" : random.nextBoolean() ? "+" : "-");
            boolean number = random.nextInt(3) == 0;
            if (number) {
                sum.append(random.nextInt(random.nextBoolean() ? 10 : 100));
            }
            int letters = random.nextInt(4) + (number || random.nextInt(3) == 0 ? 0 : 1);
            int range = random.nextInt(12) == 0 ? 4 : model.told(0);
            for (int j = 0; j < Math.max(letters, number ? 0 : 1) && j < 5; j++) {
                sum.append((char) ('a' + random.nextInt(range)));
            }
        }
        return sum.toString();
    }

    /** Elements with few numbers, none at place 0, make the ideals that are neither nothing nor all. */
    private void generateAnew() throws Exception {
        call("clear");
        int lowest = random.nextInt(3);
        int generators = 1 + random.nextInt(4);
        for (int i = 0; i < generators; i++) {
            int element = random.nextInt(6);
            call("mix", element, element, 0, element, 0);
            int numbers = 1 + random.nextInt(3);
            for (int j = 0; j < numbers; j++) {
                int place = random.nextInt(model.told(4));
                if (Integer.bitCount(place) >= lowest) {
                    call("set", element, place, 1 + random.nextInt(6));
                }
            }
            if (random.nextInt(3) == 0) {
                multiplyByLetter(element);
            }
            call("generate", element);
            if (random.nextInt(3) == 0) {
                multiplyByLetter(element);
                call("generate", element);
            }
        }
        for (int k = 0; k < 3; k++) {
            call("step", k);
        }
    }

    /** On either side: of elements with numbers in even and in odd degrees these are no multiples of each other. */
    private void multiplyByLetter(int element) throws Exception {
        int letter = (element + 1) % 6;
        call("mix", letter, letter, 0, letter, 0);
        call("set", letter, 1 << random.nextInt(model.told(0)), 1);
        if (random.nextBoolean()) {
            call("product", element, element, letter);
        } else {
            call("product", element, letter, element);
        }
    }

    private void tellTapeOfElement() throws Exception {
        int element = random.nextInt(6);
        int tape = random.nextInt(6);
        int start = random.nextInt(4);
        call("tape", tape, 0, start + model.told(4) - (random.nextInt(4) == 0 ? 1 : 0));
        for (int place = 0; place < model.told(4); place++) {
            int v = model.of(element, place);
            if (v != 0) {
                call("item", tape, start + place, random.nextInt(8) == 0 ? v + 1 : v);
            }
        }
        call("judge", element, tape, start);
    }

    private void bookWhatIs() throws Exception {
        int element = random.nextInt(6);
        int place = random.nextInt(model.told(4));
        call("book", 100 * element + place, model.of(element, place));
        call("looked");
    }
}
