/** "Terms", part 3: tapes and judging; "Answers"; the rest of "In doubt"; the constants; how long an object is used. */
final class TermsThreeBounds {
    private static final String THINGS = Sentences.THINGS;

    private TermsThreeBounds() {
    }

    static void all(Sentences s) {
        s.section("What it is");
        use(s);
        s.section("Terms 3");
        tapes(s);
        judged(s);
        refusals(s);
        s.section("Answers");
        answers(s);
        firstNamed(s);
        answeredSo(s);
        asked(s);
        s.section("In doubt");
        sameNumber(s);
        allNought(s);
        eventsAndBook(s);
        beyondTheRow(s);
        s.section("The constants");
        constants(s);
    }

    private static void use(Sentences s) {
        s.sentence("An object is used for at most 512 calls after it has been made;");
        s.test("the call number 512 is answered as the first", """
            510 times set(0, 1, 3)
            of(0, 1) = 3
            of(0, 2) = 0
            """);
        s.test("behind 508 that are refused", """
            508 times set(6, 0, 1)
            set(0, 1, 3) = 0
            generate(0) = 1
            rank(0) = 4
            step(2) = 1
            """);
        s.test("behind five texts of a hundred bytes", ("100 times feed(120)\nread() = -11\n").repeat(5) + """
            feed(120) = 1
            read() = 1
            told(0) = 3
            told(1) = 5
            told(3) = 0
            rank(0) = 0
            counted(2) = 0
            """);
        s.test("behind the dearest ones", """
            read "n4;0:abc;1:abd;2:acd;3:bcd;g0;g1;g2;g3" = 9
            450 times step(1)
            annihilator(2, 1, 2) = 1
            step(1) = 15
            """);
        s.test("behind images, tapes and rows without an end", """
            126 times image()
            126 times undo()
            126 times tape(0, 3, 60)
            126 times event(-1, 0)
            event(0, 0) = 1
            counted(0) = 1
            undo() = 0
            counted(0) = 0
            peek(0, 59) = 0
            peek(0, 60) = NO
            """);
    }

    private static void tapes(Sentences s) {
        s.sentence("TAPES 0 .. 5 hold nothing (at first), or a row of 0 bytes, 1 shorts, 2 ints, 3 longs, 4 booleans (items 0,"
            + " 1).");
        s.test("nothing at first", """
            peek(*, 0) = NO NO NO NO NO NO NO NO
            item(*, 0, 1) = NOTHING NOTHING NOTHING NOTHING NOTHING NOTHING NONE
            """);
        s.test("six of them, each by itself", """
            tape(0, 0, 1) = 1
            tape(5, 0, 1) = 1
            tape(6, 0, 1) = NONE
            tape(-1, 0, 1) = NONE
            item(0, 0, 4) = 1
            item(5, 0, 7) = 1
            peek(0, 0) = 4
            peek(5, 0) = 7
            """);
        s.test("a row of 0 items is not nothing", """
            tape(0, 0, 0) = 1
            item(0, 0, 1) = PLACE
            tape(0, -1, 0) = 1
            item(0, 0, 1) = NOTHING
            """);
        s.test("bytes", """
            tape(0, 0, 4) = 1
            item(0, 0, 127) = 1
            item(0, 1, 128) = 1
            item(0, 2, -129) = 1
            item(0, 3, 256) = 1
            peek(0, *) = 127 -128 127 0
            """);
        s.test("shorts", """
            tape(0, 1, 4) = 1
            item(0, 0, 32767) = 1
            item(0, 1, 32768) = 1
            item(0, 2, -32769) = 1
            item(0, 3, 65536) = 1
            peek(0, *) = 32767 -32768 32767 0
            """);
        s.test("ints", """
            tape(0, 2, 4) = 1
            item(0, 0, MAX) = 1
            item(0, 1, 2147483648) = 1
            item(0, 2, -2147483649) = 1
            item(0, 3, 4294967296) = 1
            peek(0, *) = 2147483647 -2147483648 2147483647 0
            """);
        s.test("longs", """
            tape(0, 3, 3) = 1
            item(0, 0, LMAX) = 1
            item(0, 1, LMIN) = 1
            item(0, 2, -1) = 1
            peek(0, *) = LMAX LMIN -1
            """);
        s.test("booleans", """
            tape(0, 4, 5) = 1
            item(0, 0, 1) = 1
            item(0, 1, -1) = 1
            item(0, 2, 2) = 1
            item(0, 3, LMIN) = 1
            peek(0, *) = 1 1 1 1 0
            item(0, 3, 0) = 1
            peek(0, 3) = 0
            """);
    }

    private static void judged(Sentences s) {
        s.sentence("Numbers of an ELEMENT at PLACES 0, 1, .. told by a row of bytes, from a place on, are JUDGED: the first"
            + " PLACE that is otherwise (counted from 0 from that place on);");
        s.test("the first place, the last place", """
            tape(0, 0, 8) = 1
            item(0, 7, 2) = 1
            judge(0, 0, 0) = 7
            item(0, 0, 1) = 1
            judge(0, 0, 0) = 0
            """);
        s.test("counted from the place on, not from the row's start", """
            read "0:1+a" = 1
            tape(0, 0, 20) = 1
            item(0, 12, 1) = 1
            judge(0, 0, 12) = 1
            item(0, 13, 1) = 1
            item(0, 19, 4) = 1
            judge(0, 0, 12) = 7
            """);
        s.test("numbers are not taken modulo p, and bytes can be below 0", """
            read "0:4" = 1
            tape(0, 0, 8) = 1
            item(0, 0, -1) = 1
            judge(0, 0, 0) = 0
            item(0, 0, 9) = 1
            judge(0, 0, 0) = 0
            item(0, 0, 4) = 1
            judge(0, 0, 0) = -5
            """);
        s.sentence("-5: none;");
        for (int n = 2; n <= 4; n++) {
            int width = 1 << n;
            s.test("just as many as there are places, with " + n + " letters", "letters(" + n + ") = 3\n"
                + "tape(0, 0, " + width + ") = 1\n"
                + "judge(0, 0, 0) = -5\n"
                + "judge(0, 0, 1) = " + (100 + width - 1) + "\n"
                + "tape(0, 0, " + (width - 1) + ") = 1\n"
                + "judge(0, 0, 0) = " + (100 + width - 1) + "\n");
        }
        s.test("what is beyond all places does not matter", """
            tape(0, 0, 60) = 1
            item(0, 8, 1) = 1
            judge(0, 0, 0) = -5
            judge(0, 0, 52) = -5
            judge(0, 0, 53) = 107
            """);
        s.sentence("100 and how many were looked at, if the row ends ahead of that (or the place is below 0, or the TAPE holds"
            + " nothing).");
        s.test("it ends", """
            tape(0, 0, 3) = 1
            judge(0, 0, 0) = 103
            judge(0, 0, 1) = 102
            judge(0, 0, 2) = 101
            judge(0, 0, 3) = 100
            judge(0, 0, 4) = 100
            judge(0, 0, MAX) = 100
            """);
        s.test("not, if one is otherwise ahead of the end", """
            tape(0, 0, 3) = 1
            item(0, 2, 1) = 1
            judge(0, 0, 0) = 2
            judge(0, 0, 2) = 0
            judge(0, 0, 3) = 100
            """);
        s.test("the place is below 0, though the row has items enough", """
            tape(0, 0, 60) = 1
            judge(0, 0, -1) = 100
            judge(0, 0, MIN) = 100
            """);
        s.test("nothing, at first and again", """
            judge(0, 5, 0) = 100
            tape(5, 0, 60) = 1
            judge(0, 5, 0) = -5
            tape(5, -1, 0) = 1
            judge(0, 5, 0) = 100
            """);
        s.test("a row of no items", """
            tape(0, 0, 0) = 1
            judge(0, 0, 0) = 100
            """);
    }

    private static void refusals(Sentences s) {
        s.sentence("The host's refusals: NOTHING (-11): nothing is there;");
        s.refused("-11", THINGS, "item(5, 0, 1)", "shift(5, 0, 0, 0, 1)", "shift(0, 0, 5, 0, 1)");
        s.sentence("CAST (-12): another sort;");
        s.refused("-12", THINGS, "judge(0, 1, 0)", "judge(0, 2, 0)", "shift(0, 0, 1, 0, 1)", "shift(2, 0, 1, 0, 1)");
        s.sentence("PLACE (-13): no such place;");
        s.refused("-13", THINGS, "item(0, 4, 1)", "item(0, -1, 1)", "shift(0, 4, 3, 0, 1)", "shift(0, 0, 3, 5, 1)");
        s.sentence("SIZE (-14): a size below 0.");
        s.refused("-14", THINGS, "tape(0, 0, -1)", "tape(5, 4, MIN)");
    }

    private static void answers(Sentences s) {
        s.sentence("NONE (-1) no such number;");
        s.refused("-1", THINGS, "set(6, 0, 1)", "lead(6)", "rank(3)", "order(2)", "told(5)", "tape(6, 0, 1)");
        s.sentence("BAD (-2) a number is not as told;");
        s.refused("-2", THINGS, "letters(5)", "prime(4)", "feed(128)", "series(0, 100, 1)", "book(0, 7)", "counted(3)");
        s.sentence("STATE (-3) as told;");
        s.refused("-3", "letters(4) = 3", "undo()", "step(2)");
        s.sentence("FULL (-4);");
        s.refused("-4", "4 times generate(0)\n8 times event(0, 0)\n8 times book(0, 0)\n100 times feed(120)\n",
            "generate(0)", "event(0, 0)", "book(0, 0)", "feed(120)");
    }

    private static void firstNamed(Sentences s) {
        s.sentence("the first that a call's words name.");
        String full = "4 times generate(0)\n8 times event(0, 0)\n8 times book(0, 0)\n100 times feed(120)\n";
        s.refused("NONE", full, "generate(6)", "event(5, 9)", "event(0, 6)", "event(3, 2)", "book(8, 9)", "book(600, 0)");
        s.refused("BAD", full, "feed(128)", "feed(-1)", "event(1, 4)", "event(4, -1)", "book(0, 7)", "book(0, -1)");
        s.refused("NONE", THINGS, "series(3, 0, 0)", "series(-1, 100, 100)", "tape(6, 9, 61)", "tape(-1, 0, -1)",
            "item(6, -1, 1)", "shift(6, -1, 5, -1, -1)", "shift(5, -1, 6, -1, -1)", "judge(6, 1, -1)", "judge(6, 5, 0)");
        s.refused("BAD", THINGS, "tape(0, 5, -1)", "tape(0, -2, MIN)");
        s.refused("NOTHING", THINGS, "item(5, -1, 1)", "shift(5, -1, 0, 0, 1)", "shift(1, 0, 5, 0, -1)");
        s.refused("CAST", THINGS, "shift(0, -1, 1, 0, 1)", "shift(0, 0, 1, 0, 99)", "shift(0, 0, 1, 0, 0)");
        s.refused("NONE", "letters(4) = 3", "step(3)", "step(-1)");
    }

    private static void answeredSo(Sentences s) {
        s.sentence("What is answered so changes nothing;");
        s.refused("NONE", THINGS, "order(-1)", "set(0, 8, 1)", "product(6, 0, 0)", "product(0, 6, 0)", "product(0, 0, 6)",
            "mix(6, 0, 1, 1, 1)", "mix(0, 6, 1, 1, 1)", "mix(0, 1, 1, 6, 1)", "becomes(6, 0, 0)", "becomes(0, 6, 0)",
            "becomes(0, 1, 5)", "becomes(0, 1, -1)", "generate(-1)", "event(-2, 0)", "event(0, -1)", "book(-2, 0)",
            "tape(6, -1, 0)");
        s.refused("BAD", THINGS, "letters(1)", "prime(1)", "feed(-1)", "event(2, 4)", "book(0, -1)", "tape(0, 0, 61)",
            "tape(0, 5, 3)");
        s.refused("SIZE", THINGS, "tape(0, 1, -1)");
        s.refused("CAST", THINGS, "shift(1, 0, 0, 0, 2)");
        s.refused("PLACE", THINGS, "shift(0, 0, 3, 2, 4)", "shift(0, 1, 0, 0, 4)", "item(1, 2, 5)");
        s.refused("STATE", "read \"0:a;g0\"\ntape(0, 0, 3)\n", "undo()");
    }

    private static void asked(Sentences s) {
        s.sentence("what is asked changes nothing.");
        s.unchanged(THINGS, "of(0, *) = 0 2 0 0 0 0 3 0 NONE", "told(*) = 3 5 0 3 8 NONE",
            "generator(2, *) = 0 2 0 0 0 0 3 0 NONE", "places(6, 1) = 702", "lead(*) = 1 4 7 -5 -5 7 NONE",
            "rank(*) = 6 6 6 NONE", "basis(0, 0, *) = 0 1 0 0 0 0 0 0 NONE", "basis(0, *, -1) = 1 2 3 5 6 7 NONE",
            "within(0, *) = 1 0 1 1 1 1 NONE", "rest(0, 1, *) = 0 0 0 0 1 0 0 0 NONE", "judge(0, 0, 0) = 104",
            "counted(*) = 3 3 6 BAD", "peek(1, *) = 0 77 NO");
    }

    private static void sameNumber(Sentences s) {
        s.sentence("letters() and prime() do all that they tell also for the same number.");
        s.test("letters", """
            read "0:a;5:abc;g0;g5" = 4
            letters(3) = 3
            of(0, *) = 0 0 0 0 0 0 0 0
            of(5, *) = 0 0 0 0 0 0 0 0
            told(3) = 0
            rank(0) = 0
            """);
        s.test("prime", """
            read "0:a;5:abc;g0;g5" = 4
            prime(5) = 5
            of(0, *) = 0 0 0 0 0 0 0 0
            of(5, *) = 0 0 0 0 0 0 0 0
            told(3) = 0
            rank(0) = 0
            """);
        s.test("n and p of a text", """
            read "0:a;g0;n3" = 3
            told(3) = 0
            of(0, 1) = 0
            read "0:a;g0;p5" = 3
            told(3) = 0
            of(0, 1) = 0
            """);
    }

    private static void allNought(Sentences s) {
        s.sentence("generate() takes an ELEMENT that is all 0, too.");
        s.test("it counts, and tells nothing", """
            generate(0) = 1
            generate(5) = 2
            told(3) = 2
            generator(1, *) = 0 0 0 0 0 0 0 0
            rank(*) = 0 0 0
            read "g0" = 1
            generate(0) = 4
            generate(0) = FULL
            """);
        s.sentence("The ANNIHILATOR of THE IDEAL 0 is all ELEMENTS, and each of its STEPS is 0.");
        for (int n = 2; n <= 4; n++) {
            int width = 1 << n;
            String rows = "letters(" + n + ") = 3\n";
            String due = "annihilator(0, 0, 0) = " + width + "\n"
                + "annihilator(2, 1, 0) = " + width + "\n"
                + "annihilator(1, 0, 3) = 0\n"
                + "annihilates(0, 0, " + (width - 1) + ", " + (width - 1) + ") = 1\n"
                + "annihilates(0, 0, " + width + ", 0) = NONE\n"
                + "step(0) = 0\n"
                + "step(1) = 0\n"
                + "step(2) = " + (n == 4 ? "STATE" : "0") + "\n";
            s.test("no generators, " + n + " letters", rows + due);
            s.test("generators that are all 0, " + n + " letters", rows + "3 times generate(0)\n" + due);
        }
        s.sentence("A GENERATOR that becomes all 0 stays one.");
        s.test("by an event", """
            read "0:a;g0;g0;g0;g0" = 5
            event(1, 0) = 1
            after(0, *) = 0 -5 4
            event(0, 0) = 2
            after(0, *) = 0 -5 4
            event(4, 3) = 3
            after(0, 2) = 3
            """);
        s.test("from the right", """
            read "0:abc;g0" = 2
            event(2, 2) = 1
            after(0, *) = 0 -5 1
            """);
    }

    private static void eventsAndBook(Sentences s) {
        s.sentence("EVENTS may ask for LETTERS and GENERATORS that are not there;");
        s.test("they come to EVENTS", """
            letters(2) = 3
            event(1, 3) = 1
            event(2, 2) = 2
            event(4, 3) = 3
            event(4, 0) = 4
            after(0, *) = 0 -5 0
            """);
        s.sentence("the BOOK asks for SPOTS of now, its numbers are as they are.");
        s.test("spots of now", """
            book(8, 0) = NONE
            letters(4) = 3
            book(8, 0) = 1
            letters(2) = 4
            book(4, 0) = NONE
            book(3, 0) = 2
            looked() = 0
            """);
        s.test("numbers up to 6, whatever the prime is", """
            prime(2) = 5
            book(0, 6) = 1
            set(0, 0, 6) = 0
            looked() = 0
            book(-1, 0) = 0
            book(0, 2) = 1
            looked() = 0
            """);
    }

    private static void beyondTheRow(Sentences s) {
        s.sentence("A place below 0 or beyond the row, and a TAPE that holds nothing, are 100.");
        s.unchanged(THINGS, "judge(0, 0, -1) = 100", "judge(0, 0, MIN) = 100", "judge(0, 0, 4) = 100",
            "judge(0, 0, 5) = 100", "judge(0, 0, MAX) = 100", "judge(0, 5, 0) = 100", "judge(0, 5, -1) = 100",
            "judge(0, 5, MAX) = 100");
    }

    private static void constants(Sentences s) {
        s.sentence("`NO = Long.MIN_VALUE`: There is no such number.");
        s.refused("" + OuterIdeals.NO, THINGS, "mean(3)", "odds(3, 0)", "odds(0, 2)", "peek(6, 0)");
        s.refused("LMIN", THINGS, "mean(-1)", "odds(-1, 1)", "odds(0, -1)", "peek(5, 0)", "peek(0, 4)");
    }
}
