/** Promises 34 to 41: judging, the image, tapes. */
final class TapesBounds {
    private static final String THINGS = Sentences.THINGS;
    private static final String[] NO_TAPES = {"-1", "6", "MIN", "MAX"};
    private static final String[] NO_ELEMENTS = NO_TAPES;
    private static final int[] SORTS = {0, 1, 2, 3, 4};
    /** Two rows of ints, 1 2 3 4 5 and -1 -2 -3 -4. */
    private static final String TWO_ROWS = """
        tape(0, 2, 5) = 1
        item(0, 0, 1) = 1
        item(0, 1, 2) = 1
        item(0, 2, 3) = 1
        item(0, 3, 4) = 1
        item(0, 4, 5) = 1
        tape(1, 2, 4) = 1
        item(1, 0, -1) = 1
        item(1, 1, -2) = 1
        item(1, 2, -3) = 1
        item(1, 3, -4) = 1
        """;

    private TapesBounds() {
    }

    static void all(Sentences s) {
        judge(s);
        image(s);
        undo(s);
        counted(s);
        tape(s);
        item(s);
        peek(s);
        shift(s);
        shiftRefused(s);
    }

    private static void judge(Sentences s) {
        s.promise(34);
        s.sentence("JUDGED, an ELEMENT from place i of a TAPE on.");
        s.test("the first and the last of both", """
            tape(0, 0, 9) = 1
            tape(5, 0, 8) = 1
            item(5, 7, 1) = 1
            item(0, 1, 1) = 1
            read "5:abc;0:1" = 2
            judge(5, 5, 0) = -5
            judge(0, 5, 0) = 0
            judge(0, 0, 1) = -5
            judge(0, 0, 0) = 0
            judge(5, 0, 2) = 107
            """);
        s.test("the row's end, below 0, nothing there", """
            tape(0, 0, 7) = 1
            judge(0, 0, 0) = 107
            judge(0, 0, 6) = 101
            judge(0, 0, 7) = 100
            judge(0, 0, 8) = 100
            judge(0, 0, -1) = 100
            judge(0, 1, 0) = 100
            """);
        s.test("places far beyond", """
            tape(0, 0, 60) = 1
            judge(0, 0, MAX) = 100
            judge(0, 0, MIN) = 100
            judge(0, 0, 2147483640) = 100
            """);
        s.sentence("NONE: element, tape;");
        s.refusedFor("NONE", THINGS, "judge(?, 0, 0)", NO_ELEMENTS);
        s.refusedFor("NONE", THINGS, "judge(0, ?, 0)", NO_TAPES);
        s.refusedFor("NONE", THINGS, "judge(?, 1, 0)", NO_ELEMENTS);
        s.sentence("CAST: it is no row of bytes.");
        for (int sort : new int[] {1, 2, 3, 4}) {
            s.refused("CAST", THINGS + "tape(4, " + sort + ", 8) = 1\n", "judge(0, 4, 0)", "judge(3, 4, 0)", "judge(0, 4, 8)");
            s.refused("CAST", "tape(4, " + sort + ", 0) = 1\n", "judge(0, 4, 0)");
        }
        s.test("a row of bytes that another sort's follows, and back", """
            tape(0, 0, 8) = 1
            judge(0, 0, 0) = -5
            tape(0, 4, 8) = 1
            judge(0, 0, 0) = CAST
            tape(0, 0, 8) = 1
            judge(0, 0, 0) = -5
            """);
    }

    private static void image(Sentences s) {
        s.promise(35);
        s.sentence("THE IMAGE is taken: how many GENERATORS.");
        s.test("none, four", """
            image() = 0
            4 times generate(0)
            image() = 4
            clear() = 4
            undo() = 4
            """);
        s.test("of now: what comes behind is not in it", """
            read "0:a;g0" = 2
            image() = 1
            set(0, 1, 3) = 1
            generate(0) = 2
            undo() = 1
            of(0, 1) = 1
            generator(0, 1) = 1
            generator(1, 1) = NONE
            """);
        s.test("a later one takes the place of the first", """
            set(0, 0, 1) = 0
            image() = 0
            set(0, 0, 2) = 1
            image() = 0
            set(0, 0, 3) = 2
            undo() = 0
            of(0, 0) = 2
            """);
        s.test("all stays as it is", """
            read "o1;0:a;g0" = 3
            event(0, 0) = 1
            book(1, 1) = 1
            feed(120) = 1
            image() = 1
            told(*) = 3 5 1 1 8
            of(0, 1) = 1
            counted(*) = 1 1 1
            """);
    }

    private static void undo(Sentences s) {
        s.promise(36);
        s.sentence("All is as THE IMAGE: how many GENERATORS.");
        s.test("letters, the prime, ORDER", """
            read "n4;p7;o1" = 3
            image() = 0
            letters(2) = 4
            prime(2) = 7
            order(0) = 1
            undo() = 0
            told(*) = 4 7 1 0 16
            """);
        s.test("all elements, with all their places", """
            read "n4;0:1+abcd;1:a;2:b;3:c;4:d;5:ab+cd" = 7
            image() = 0
            letters(4) = 4
            undo() = 0
            of(0, *) = 1 0 0 0 0 0 0 0 0 0 0 0 0 0 0 1
            lead(*) = 0 1 2 4 8 3
            of(5, 12) = 1
            """);
        s.test("all generators", """
            read "0:a;1:b;2:c;3:abc;g0;g1;g2;g3" = 8
            image() = 4
            read "x;g3" = 2
            undo() = 4
            generator(0, 1) = 1
            generator(1, 2) = 1
            generator(2, 4) = 1
            generator(3, 7) = 1
            rank(0) = 7
            """);
        s.test("EVENTS and the BOOK, eight rows each", """
            read "0:a;1:b" = 2
            event(0, 1) = 1
            6 times event(3, 0)
            event(0, 0) = 8
            7 times book(0, 0)
            book(101, 0) = 8
            image() = 0
            event(-1, 0) = 0
            book(-1, 0) = 0
            event(4, 0) = 1
            book(0, 5) = 1
            undo() = 0
            counted(*) = 8 8 0
            after(0, *) = 6 1 2
            looked() = -5
            """);
        s.test("fewer than there were by then", """
            image() = 0
            read "0:a;g0;g0" = 3
            event(0, 0) = 1
            book(0, 5) = 1
            undo() = 0
            told(3) = 0
            counted(*) = 0 0 0
            rank(0) = 0
            of(0, 1) = 0
            """);
        s.test("once more, and once more", """
            read "0:a;g0" = 2
            image() = 1
            clear() = 1
            undo() = 1
            set(0, 1, 2) = 1
            clear() = 1
            undo() = 1
            of(0, 1) = 1
            generator(0, 1) = 1
            undo() = 1
            """);
        s.test("the text and tapes stay", """
            tape(0, 0, 2) = 1
            image() = 0
            feed(120) = 1
            item(0, 1, 5) = 1
            tape(1, 0, 1) = 1
            undo() = 0
            counted(2) = 1
            peek(0, *) = 0 5 NO
            peek(1, *) = 0 NO
            """);
        s.sentence("STATE: there is none.");
        s.refused("STATE", "read \"0:a;g0\" = 2\nfeed(120) = 1\nevent(0, 0) = 1\n", "undo()");
        s.test("at first; never more behind an image", """
            undo() = STATE
            undo() = STATE
            image() = 0
            undo() = 0
            undo() = 0
            """);
    }

    private static void counted(Sentences s) {
        s.promise(37);
        s.sentence("How many: 0 EVENTS, 1 of the BOOK, 2 bytes of THE TEXT.");
        s.test("none", "counted(*) = 0 0 0 BAD");
        s.test("the most", """
            8 times event(0, 0)
            8 times book(0, 0)
            100 times feed(120)
            counted(*) = 8 8 100
            event(0, 0) = FULL
            book(0, 0) = FULL
            feed(120) = FULL
            counted(*) = 8 8 100
            """);
        s.test("each by itself", """
            3 times event(0, 0)
            2 times book(0, 0)
            feed(120) = 1
            counted(*) = 3 2 1
            event(-1, 0) = 0
            counted(*) = 0 2 1
            book(-1, 0) = 0
            counted(*) = 0 0 1
            read() = 1
            counted(*) = 0 0 0
            """);
        s.sentence("BAD.");
        s.refusedFor("BAD", THINGS, "counted(?)", "-1", "3", "MIN", "MAX");
    }

    private static void tape(Sentences s) {
        s.promise(38);
        s.sentence("A TAPE becomes a row of n (0 .. 60) of a sort, all 0, or holds nothing (sort -1: n does not matter): 1.");
        for (int sort : SORTS) {
            s.test("0 items, 60 items, sort " + sort, "tape(0, " + sort + ", 0) = 1\n" + """
                item(0, 0, 1) = PLACE
                peek(0, 0) = NO
                """ + "tape(0, " + sort + ", 60) = 1\n" + """
                peek(0, 0) = 0
                peek(0, 59) = 0
                peek(0, 60) = NO
                item(0, 59, 1) = 1
                item(0, 60, 1) = PLACE
                """);
            s.test("all 0, whatever was there, sort " + sort, "tape(5, " + sort + ", 60) = 1\n" + """
                item(5, 0, 1) = 1
                item(5, 1, 1) = 1
                item(5, 59, 1) = 1
                """ + "tape(5, " + sort + ", 2) = 1\n" + """
                peek(5, *) = 0 0 NO
                """ + "tape(5, " + sort + ", 60) = 1\n" + """
                peek(5, *) = 0 0 0
                peek(5, 59) = 0
                """);
        }
        for (String n : new String[] {"0", "60", "61", "-1", "MIN", "MAX"}) {
            s.test("nothing, n " + n, "tape(0, 0, 3) = 1\ntape(0, -1, " + n + ") = 1\n" + """
                peek(0, 0) = NO
                item(0, 0, 1) = NOTHING
                """);
        }
        s.test("nothing, where nothing was", """
            tape(0, -1, 0) = 1
            item(0, 0, 1) = NOTHING
            """);
        s.sentence("NONE: tape;");
        s.refusedFor("NONE", THINGS, "tape(?, 0, 1)", NO_TAPES);
        s.refusedFor("NONE", THINGS, "tape(?, -1, 0)", NO_TAPES);
        s.refusedFor("NONE", THINGS, "tape(?, 9, 99)", NO_TAPES);
        s.refusedFor("NONE", THINGS, "tape(?, 0, -1)", NO_TAPES);
        s.sentence("BAD: sort, n above 60;");
        s.refusedFor("BAD", THINGS, "tape(0, ?, 1)", "-2", "5", "MIN", "MAX");
        s.refusedFor("BAD", THINGS, "tape(0, ?, -1)", "-2", "5", "MIN", "MAX");
        s.refusedFor("BAD", THINGS, "tape(0, 0, ?)", "61", "100", "MAX");
        s.refusedFor("BAD", THINGS, "tape(5, 4, ?)", "61", "MAX");
        s.sentence("SIZE.");
        for (int sort : SORTS) {
            s.refusedFor("SIZE", THINGS, "tape(0, " + sort + ", ?)", "-1", "MIN");
        }
    }

    private static void item(Sentences s) {
        s.promise(39);
        s.sentence("Item i of a TAPE becomes v (its lowest bits, as many as an item has; booleans: whether v is not 0): 1.");
        String[] lowest = {"-16", "-8464", "-1698898192", "1311768467463790320", "1"};
        for (int sort : SORTS) {
            s.test("sort " + sort, "tape(0, " + sort + ", 3) = 1\n" + """
                item(0, 2, 1311768467463790320) = 1
                item(0, 0, -1) = 1
                """ + "peek(0, *) = " + (sort == 4 ? "1" : "-1") + " 0 " + lowest[sort] + " NO\n" + """
                item(0, 2, 0) = 1
                peek(0, 2) = 0
                """);
        }
        s.test("bytes: the edges", """
            tape(0, 0, 6) = 1
            item(0, 0, 127) = 1
            item(0, 1, 128) = 1
            item(0, 2, -128) = 1
            item(0, 3, -129) = 1
            item(0, 4, 255) = 1
            item(0, 5, 256) = 1
            peek(0, *) = 127 -128 -128 127 -1 0
            """);
        s.test("shorts: the edges", """
            tape(0, 1, 6) = 1
            item(0, 0, 32767) = 1
            item(0, 1, 32768) = 1
            item(0, 2, -32768) = 1
            item(0, 3, -32769) = 1
            item(0, 4, 65535) = 1
            item(0, 5, 65536) = 1
            peek(0, *) = 32767 -32768 -32768 32767 -1 0
            """);
        s.test("ints: the edges", """
            tape(0, 2, 6) = 1
            item(0, 0, 2147483647) = 1
            item(0, 1, 2147483648) = 1
            item(0, 2, -2147483648) = 1
            item(0, 3, -2147483649) = 1
            item(0, 4, 4294967295) = 1
            item(0, 5, 4294967296) = 1
            peek(0, *) = 2147483647 -2147483648 -2147483648 2147483647 -1 0
            """);
        s.test("longs: the edges", """
            tape(0, 3, 2) = 1
            item(0, 0, LMAX) = 1
            item(0, 1, LMIN) = 1
            peek(0, *) = LMAX LMIN NO
            """);
        s.test("booleans: high bits alone, and 0", """
            tape(0, 4, 4) = 1
            item(0, 0, 256) = 1
            item(0, 1, 4294967296) = 1
            item(0, 2, LMIN) = 1
            peek(0, *) = 1 1 1 0
            item(0, 1, 0) = 1
            peek(0, *) = 1 0 1 0
            """);
        s.test("the first and the last of sixty, of the last tape", """
            tape(5, 3, 60) = 1
            item(5, 0, 7) = 1
            item(5, 59, 8) = 1
            peek(5, 0) = 7
            peek(5, 58) = 0
            peek(5, 59) = 8
            """);
        s.sentence("NONE;");
        s.refusedFor("NONE", THINGS, "item(?, 0, 1)", NO_TAPES);
        s.sentence("NOTHING;");
        s.refused("NOTHING", THINGS, "item(4, 0, 1)", "item(5, -1, 1)", "item(5, MAX, 1)");
        s.refused("NOTHING", THINGS + "tape(0, -1, 0) = 1\n", "item(0, 0, 1)");
        s.sentence("PLACE.");
        s.refusedFor("PLACE", THINGS, "item(0, ?, 1)", "-1", "4", "5", "60", "MIN", "MAX");
        s.refusedFor("PLACE", "tape(0, 0, 60) = 1", "item(0, ?, 1)", "60", "61");
        s.refusedFor("PLACE", "tape(0, 4, 0) = 1", "item(0, ?, 1)", "0", "-1");
    }

    private static void peek(Sentences s) {
        s.promise(40);
        s.sentence("Item i of a TAPE.");
        s.test("the first and the last", """
            tape(0, 0, 2) = 1
            item(0, 0, 3) = 1
            item(0, 1, -4) = 1
            tape(5, 3, 60) = 1
            item(5, 59, LMAX) = 1
            peek(0, *) = 3 -4 NO
            peek(5, 59) = LMAX
            """);
        s.sentence("NO: no such TAPE, nothing there, no such place.");
        s.refusedFor("NO", THINGS, "peek(?, 0)", NO_TAPES);
        s.refused("NO", THINGS, "peek(4, 0)", "peek(5, -1)");
        s.refused("NO", THINGS + "tape(0, -1, 0) = 1\n", "peek(0, 0)", "peek(0, 1)");
        s.refusedFor("NO", THINGS, "peek(0, ?)", "-1", "4", "60", "MIN", "MAX");
        s.refused("NO", "tape(0, 0, 0) = 1", "peek(0, 0)");
        s.refused("NO", "tape(0, 0, 60) = 1", "peek(0, 60)");
    }

    private static void shift(Sentences s) {
        s.promise(41);
        s.sentence("n items of a TAPE from i on come to another one (or the same) from j on, as they all were before: n.");
        s.test("to another one", TWO_ROWS + """
            shift(0, 3, 1, 0, 2) = 2
            peek(1, *) = 4 5 -3 -4 NO
            peek(0, *) = 1 2 3 4 5 NO
            """);
        s.test("to the end of another one", TWO_ROWS + """
            shift(0, 0, 1, 3, 1) = 1
            peek(1, *) = -1 -2 -3 1 NO
            shift(0, 1, 1, 0, 4) = 4
            peek(1, *) = 2 3 4 5 NO
            """);
        s.test("within the same, onward", TWO_ROWS + """
            shift(0, 0, 0, 1, 4) = 4
            peek(0, *) = 1 1 2 3 4 NO
            """);
        s.test("within the same, back", TWO_ROWS + """
            shift(0, 1, 0, 0, 4) = 4
            peek(0, *) = 2 3 4 5 5 NO
            """);
        s.test("onto itself", TWO_ROWS + """
            shift(0, 0, 0, 0, 5) = 5
            peek(0, *) = 1 2 3 4 5 NO
            """);
        s.test("none, also at both ends", TWO_ROWS + """
            shift(0, 0, 1, 0, 0) = 0
            shift(0, 5, 1, 4, 0) = 0
            shift(0, 5, 0, 5, 0) = 0
            peek(0, *) = 1 2 3 4 5 NO
            peek(1, *) = -1 -2 -3 -4 NO
            """);
        s.test("none of a row of none", """
            tape(0, 0, 0) = 1
            tape(1, 0, 0) = 1
            shift(0, 0, 1, 0, 0) = 0
            shift(0, 0, 1, 0, 1) = PLACE
            """);
        for (int sort : SORTS) {
            s.test("sixty, sort " + sort, "tape(4, " + sort + ", 60) = 1\ntape(5, " + sort + ", 60) = 1\n" + """
                item(4, 0, 1) = 1
                item(4, 59, 1) = 1
                shift(4, 0, 5, 0, 60) = 60
                peek(5, *) = 1 0
                peek(5, 59) = 1
                shift(5, 0, 5, 1, 59) = 59
                peek(5, *) = 1 1 0
                peek(5, 59) = 0
                """);
        }
        s.test("between tapes that are both longs, as wide as they are", """
            tape(0, 3, 1) = 1
            tape(1, 3, 1) = 1
            item(0, 0, LMAX) = 1
            shift(0, 0, 1, 0, 1) = 1
            peek(1, 0) = LMAX
            """);
    }

    private static void shiftRefused(Sentences s) {
        s.sentence("NONE: tapes;");
        s.refusedFor("NONE", THINGS, "shift(?, 0, 0, 0, 1)", NO_TAPES);
        s.refusedFor("NONE", THINGS, "shift(0, 0, ?, 0, 1)", NO_TAPES);
        s.refusedFor("NONE", THINGS, "shift(5, -1, ?, 0, 1)", NO_TAPES);
        s.sentence("NOTHING;");
        s.refused("NOTHING", THINGS, "shift(5, 0, 0, 0, 1)", "shift(0, 0, 5, 0, 1)", "shift(4, 0, 5, 0, 0)",
            "shift(5, 0, 5, 0, 0)", "shift(5, -1, 0, 0, 1)", "shift(0, 0, 5, 0, -1)");
        s.sentence("CAST: of unlike sorts;");
        for (int one : SORTS) {
            for (int other : SORTS) {
                if (one != other) {
                    s.refused("CAST", "tape(4, " + one + ", 3) = 1\ntape(5, " + other + ", 3) = 1\nitem(4, 0, 1)\n",
                        "shift(4, 0, 5, 0, 1)");
                }
            }
        }
        s.refused("CAST", THINGS, "shift(0, 0, 1, 0, 0)", "shift(0, -1, 1, 0, 1)", "shift(0, 0, 1, -1, 1)",
            "shift(0, 0, 1, 0, -1)", "shift(0, 9, 1, 9, 9)");
        s.sentence("PLACE: n, i or j is below 0, or beyond either's end.");
        for (String at : new String[] {"-1, 1, 0, 1", "0, 1, -1, 1", "0, 1, 0, -1", "MIN, 1, 0, 1", "0, 1, MIN, 1",
            "0, 1, 0, MIN", "MIN, 1, MIN, MIN", "-1, 1, 0, 0", "0, 1, -1, 0"}) {
            s.refused("PLACE", TWO_ROWS, "shift(0, " + at + ")");
        }
        for (String at : new String[] {"5, 1, 0, 1", "0, 1, 4, 1", "0, 1, 0, 5", "2, 1, 0, 4", "4, 1, 0, 2", "0, 1, 3, 2",
            "6, 1, 0, 0", "0, 1, 5, 0", "MAX, 1, 0, 1", "0, 1, MAX, 1", "0, 1, 0, MAX", "1, 1, 1, MAX", "MAX, 1, MAX, MAX",
            "MAX, 1, 0, 0", "0, 1, MAX, 0"}) {
            s.refused("PLACE", TWO_ROWS, "shift(0, " + at + ")");
        }
        s.refused("PLACE", TWO_ROWS, "shift(0, 1, 0, 0, 5)", "shift(0, 0, 0, 1, 5)", "shift(1, 0, 0, 0, 5)",
            "shift(1, 0, 0, 2, 4)");
    }
}
