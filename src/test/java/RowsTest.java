import java.util.List;

/** That Rows and Sentences, by which BoundsTest is told, see what is wrong. */
public final class RowsTest {
    private static final Check CHECK = new Check("RowsTest");

    public static void main(String[] args) {
        wrongRows("nothing wrong", 0, "letters(4) = 3\nread \"0:a\" = 1\nof(0, *) = 0 1 0 0\nset(0, 0, 1)\n3 times image()");
        wrongRows("a wrong answer", 1, "letters(4) = 4");
        wrongRows("a wrong answer of several", 1, "of(0, *) = 0 1 0 0");
        wrongRows("a wrong answer of a text", 1, "read \"0:a\" = 2");
        wrongRows("a wrong answer by name", 1, "letters(5) = NONE");
        wrongRows("a wrong answer, each time", 3, "3 times image() = 1");
        wrongRows("a wrong float", 1, "series(0, 1, 1) = float 7");
        wrongRows("a wrong double", 1, "mean(0) = double 1/3");
        refusedRows("no row", "letters 4 = 3");
        refusedRows("no such call", "letter(4) = 3");
        refusedRows("too many calls", "513 times image()");
        CHECK.due("it changes nothing", outcome("letters(5) = BAD").size(), 0);
        CHECK.due("it changes something", outcome("set(0, 0, 3) = 0").size(), 1);
        CHECK.due("it changes something and is wrong", outcome("set(0, 0, 3) = 1").size(), 2);
        CHECK.due("it changes a tape's sort alone", outcome("tape(3, 1, 5) = 1").size(), 1);
        CHECK.due("it changes the text alone", outcome("feed(97) = 7").size(), 1);
        CHECK.due("it changes the image alone", outcome("image() = 3").size(), 1);
        CHECK.end();
    }

    private static void wrongRows(String what, int due, String rows) {
        Rows played = new Rows();
        played.play(rows);
        CHECK.due(what, played.wrong().size(), due);
    }

    private static void refusedRows(String what, String rows) {
        boolean refused = false;
        try {
            new Rows().play(rows);
        } catch (RuntimeException thrown) {
            refused = true;
        }
        CHECK.holds(what, refused);
    }

    private static List<String> outcome(String lastCall) {
        Sentences s = new Sentences();
        s.unchanged(Sentences.THINGS, lastCall);
        return s.told().get(0).run();
    }
}
