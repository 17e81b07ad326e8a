import java.util.ArrayList;
import java.util.HashSet;
import java.util.List;
import java.util.Set;

/**
 * Tests by the sentences of the document. Each quotes the sentence that it holds the class to, in its section, and
 * names the edge that it is about.
 */
final class Sentences {
    /** One test. A last call, if there is one, is to change nothing: a twin that doesn't get it must tell the same. */
    record Told(String section, String sentence, String edge, String rows, String lastCall) {
        String name() {
            return section + " «" + sentence + "» " + edge;
        }

        List<String> run() {
            Rows one = new Rows();
            one.play(rows);
            if (lastCall != null) {
                one.play(lastCall);
                Rows twin = new Rows();
                twin.play(rows);
                if (!one.tale().equals(twin.tale())) {
                    one.wrong().add(lastCall + " changed something");
                }
            }
            return one.wrong();
        }
    }

    /** Rows that leave an object with something of everything; its image is otherwise than it is. */
    static final String THINGS = """
        read "o1;0:2a+3bc;1:a+b;2:4abc;g1;g2" = 6
        event(0, 1) = 1
        event(4, 0) = 2
        book(1, 2) = 1
        book(207, 4) = 2
        image() = 2
        read "o0;5:3abc;g0;1:c" = 4
        event(1, 2) = 3
        book(0, 1) = 3
        tape(0, 0, 4) = 1
        item(0, 1, 2) = 1
        tape(1, 3, 2) = 1
        item(1, 1, 77) = 1
        tape(2, 4, 3) = 1
        item(2, 0, 1) = 1
        tape(3, 0, 5) = 1
        feed "3:ab;x"
        """;

    private final List<Told> told = new ArrayList<>();
    private String section = "";
    private String sentence = "";

    List<Told> told() {
        return told;
    }

    void section(String name) {
        section = name;
    }

    void promise(int number) {
        section("Promise " + number);
    }

    /** The sentence, or the part of one, that the tests to come are about. */
    void sentence(String quote) {
        sentence = quote;
    }

    void test(String edge, String rows) {
        told.add(new Told(section, sentence, edge, rows, null));
    }

    /** After these rows each call is answered as it tells, and changes nothing. */
    void unchanged(String rows, String... calls) {
        for (String call : calls) {
            told.add(new Told(section, sentence, call, rows, call));
        }
    }

    /** The same for calls that are all to be answered by one refusal. */
    void refused(String answer, String rows, String... calls) {
        for (String call : calls) {
            unchanged(rows, call + " = " + answer);
        }
    }

    /** A call with ? in it, for numbers just beside and far beside those that there are. */
    void refusedFor(String answer, String rows, String call, String... numbers) {
        for (String number : numbers) {
            refused(answer, rows, call.replace("?", number));
        }
    }

    void run() {
        int failed = 0;
        Set<String> names = new HashSet<>();
        for (Told one : told) {
            List<String> wrong = outcome(one);
            if (!names.add(one.name() + one.rows())) {
                wrong.add("there is such a test already");
            }
            for (String line : wrong) {
                System.out.println(one.name() + ": " + line);
            }
            failed += wrong.isEmpty() ? 0 : 1;
        }
        System.out.println("BoundsTest: " + told.size() + " tests, " + failed + " failed");
        if (failed != 0 || told.isEmpty()) {
            System.exit(1);
        }
    }

    private static List<String> outcome(Told one) {
        try {
            return one.run();
        } catch (RuntimeException thrown) {
            return new ArrayList<>(List.of(thrown.toString()));
        }
    }
}
