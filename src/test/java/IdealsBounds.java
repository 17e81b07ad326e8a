/** Promises 18 to 33: ideals, fits, odds, events, books. */
final class IdealsBounds {
    private static final String THINGS = Sentences.THINGS;
    /** With four letters a + bc has left multiples that are no right ones, unless the prime is 2. */
    private static final String SIDED = "read \"n4;0:a+bc;g0;1:bcd-ad;2:ad+bcd;3:bcd\" = 6\n";
    private static final String[] NO_ELEMENTS = {"-1", "6", "MIN", "MAX"};
    private static final String[] NO_PLACES = {"-1", "8", "15", "MIN", "MAX"};
    private static final String[] NO_SIDES = {"-1", "3", "MIN", "MAX"};
    private static final String[] NO_HANDS = {"-1", "2", "MIN", "MAX"};

    private IdealsBounds() {
    }

    static void all(Sentences s) {
        rank(s);
        basis(s);
        within(s);
        rest(s);
        count(s);
        series(s);
        mean(s);
        annihilator(s);
        annihilates(s);
        step(s);
        fits(s);
        odds(s);
        event(s);
        after(s);
        book(s);
        looked(s);
    }

    private static void rank(Sentences s) {
        s.promise(18);
        s.sentence("RANK of a SIDE.");
        s.test("none, some, all", """
            rank(*) = 0 0 0
            read "0:abc;g0" = 2
            rank(*) = 1 1 1
            read "0:1;g0" = 2
            rank(*) = 8 8 8
            """);
        s.test("of each SIDE", SIDED + "rank(*) = 8 8 9");
        s.test("it follows each change", """
            read "0:a;1:b;g0" = 3
            rank(0) = 4
            generate(1) = 2
            rank(0) = 6
            image() = 2
            clear() = 2
            rank(0) = 0
            undo() = 2
            rank(0) = 6
            read "x;g1" = 2
            rank(0) = 4
            prime(3) = 5
            rank(0) = 0
            undo() = 2
            rank(2) = 6
            letters(4) = 3
            rank(2) = 0
            """);
        s.test("it follows changes between which nothing is asked", """
            read "0:a;1:abc;g0" = 3
            rank(*) = 4 4 4
            image() = 1
            clear() = 1
            generate(1) = 1
            rank(*) = 1 1 1
            undo() = 1
            generate(1) = 2
            clear() = 2
            generate(0) = 1
            rank(*) = 4 4 4
            order(1) = 0
            order(0) = 1
            read "x;g1" = 2
            rank(*) = 1 1 1
            undo() = 1
            undo() = 1
            rank(*) = 4 4 4
            """);
        s.test("behind an image that came back", """
            read "0:a;1:b;g0" = 3
            image() = 1
            rank(0) = 4
            undo() = 1
            generate(1) = 2
            rank(0) = 6
            """);
        s.test("numbers reckoned with four LETTERS are not met with three", """
            read "n4;0:1;g0" = 3
            event(1, 3) = 1
            event(4, 0) = 2
            after(*, 0) = 0 0 0
            read "n3;g1" = 2
            rank(*) = 0 0 0
            """);
        s.test("numbers reckoned with three LETTERS are not met with two", """
            read "0:1;g0" = 2
            event(1, 2) = 1
            event(4, 0) = 2
            after(*, 0) = 0 0 0
            read "n2;g1" = 2
            rank(*) = 0 0 0
            """);
        s.sentence("NONE.");
        s.refusedFor("NONE", THINGS, "rank(?)", NO_SIDES);
    }

    private static void basis(Sentences s) {
        s.promise(19);
        s.sentence("The number of BASIS i of a SIDE at a PLACE;");
        s.test("the first and the last", """
            read "0:2a+c;g0" = 2
            basis(0, 0, *) = 0 1 0 0 3 0 0 0
            basis(0, 3, *) = 0 0 0 0 0 0 0 1
            """);
        s.test("of each SIDE", SIDED + """
            basis(0, 4, *) = 0 0 0 0 0 0 0 0 0 1 0 0 0 0 4 0
            basis(1, 4, *) = 0 0 0 0 0 0 0 0 0 1 0 0 0 0 1 0
            basis(2, 4, *) = 0 0 0 0 0 0 0 0 0 1 0 0 0 0 0 0
            """);
        s.sentence("at PLACE -1: its LEAD.");
        s.test("all leads, in both orders", """
            read "0:c;1:ab;g0;g1" = 4
            basis(0, *, -1) = 3 4 5 6 7 NONE
            order(1) = 0
            basis(0, *, -1) = 4 3 5 6 7 NONE
            """);
        s.sentence("NONE: side, i, place.");
        s.refusedFor("NONE", THINGS, "basis(?, 0, 0)", NO_SIDES);
        s.refusedFor("NONE", THINGS, "basis(0, ?, 0)", "-1", "6", "7", "8", "MIN", "MAX");
        s.refusedFor("NONE", THINGS, "basis(0, ?, -1)", "-1", "6", "MIN", "MAX");
        s.refusedFor("NONE", THINGS, "basis(0, 0, ?)", "-2", "8", "15", "MIN", "MAX");
        s.refused("NONE", "", "basis(0, 0, -1)", "basis(2, 0, 0)");
        s.refused("NONE", "read \"0:1;g0\" = 2", "basis(0, 8, -1)", "basis(0, 8, 0)");
        s.refused("NONE", "read \"n4;0:1;g0\" = 3", "basis(0, 16, -1)", "basis(0, 0, 16)");
        s.refused("NONE", "read \"n2;0:1;g0\" = 3", "basis(0, 4, -1)", "basis(0, 0, 4)");
    }

    private static void within(Sentences s) {
        s.promise(20);
        s.sentence("Whether an ELEMENT lies WITHIN (1, 0).");
        s.test("nothing, all", """
            read "0:a" = 1
            within(*, 0) = 0 0 0
            within(*, 5) = 1 1 1
            read "1:2;g1" = 2
            within(*, 0) = 1 1 1
            """);
        s.test("of each SIDE", SIDED + """
            within(*, 1) = 1 0 1
            within(*, 2) = 0 1 1
            within(*, 3) = 0 0 1
            """);
        s.sentence("NONE: side, element.");
        s.refusedFor("NONE", THINGS, "within(?, 0)", NO_SIDES);
        s.refusedFor("NONE", THINGS, "within(0, ?)", NO_ELEMENTS);
    }

    private static void rest(Sentences s) {
        s.promise(21);
        s.sentence("The number of REST of an ELEMENT at a PLACE.");
        s.test("of each SIDE", SIDED + """
            rest(0, 2, *) = 0 0 0 0 0 0 0 0 0 0 0 0 0 0 2 0
            rest(1, 2, *) = 0 0 0 0 0 0 0 0 0 0 0 0 0 0 0 0
            rest(2, 3, *) = 0 0 0 0 0 0 0 0 0 0 0 0 0 0 0 0
            of(2, 9) = 1
            """);
        s.test("the first and the last place", """
            read "0:1+4abc" = 1
            rest(0, 0, 0) = 1
            rest(0, 0, 7) = 4
            """);
        s.sentence("NONE: side, element, place.");
        s.refusedFor("NONE", THINGS, "rest(?, 0, 0)", NO_SIDES);
        s.refusedFor("NONE", THINGS, "rest(0, ?, 0)", NO_ELEMENTS);
        s.refusedFor("NONE", THINGS, "rest(0, 0, ?)", NO_PLACES);
        s.refused("NONE", "letters(2) = 3", "rest(0, 0, 4)");
        s.refused("NONE", "letters(4) = 3", "rest(0, 0, 16)");
    }

    private static void count(Sentences s) {
        s.promise(22);
        s.sentence("COUNT.");
        s.test("degrees 0 to n", """
            read "n2;0:1;g0" = 3
            count(0, *) = 1 2 1 NONE
            read "n3;0:1;g0" = 3
            count(1, *) = 1 3 3 1 NONE
            read "n4;0:1;g0" = 3
            count(2, *) = 1 4 6 4 1 NONE
            """);
        s.sentence("NONE: side, d (0 .. n).");
        s.refusedFor("NONE", THINGS, "count(?, 0)", NO_SIDES);
        s.refusedFor("NONE", THINGS, "count(0, ?)", "-1", "4", "MIN", "MAX");
        s.refused("NONE", "letters(2) = 3", "count(0, 3)");
        s.refused("NONE", "letters(4) = 3", "count(0, 5)");
    }

    private static void series(Sentences s) {
        s.promise(23);
        s.sentence("SERIES' bits.");
        s.test("of nothing left, of all left", """
            series(0, 1, 1) = 1090519040
            series(2, 1, 2) = 1079508992
            read "0:1;g0" = 2
            series(0, 1, 1) = 0
            """);
        s.sentence("NONE: side;");
        s.refusedFor("NONE", THINGS, "series(?, 1, 1)", NO_SIDES);
        s.refusedFor("NONE", THINGS, "series(?, 0, 100)", NO_SIDES);
        s.sentence("BAD: num, den (1 .. 99 each).");
        s.test("1 and 99 are as told", """
            series(0, 1, 1) = float 8
            series(0, 99, 99) = float 8
            series(0, 99, 1) = float 1000000
            series(0, 1, 99) = 1065609993
            """);
        s.refusedFor("BAD", THINGS, "series(0, ?, 1)", "0", "100", "-1", "MIN", "MAX");
        s.refusedFor("BAD", THINGS, "series(0, 1, ?)", "0", "100", "-1", "MIN", "MAX");
    }

    private static void mean(Sentences s) {
        s.promise(24);
        s.sentence("MEAN's bits.");
        s.test("of RANK 0, of all", """
            mean(*) = 0 0 0
            read "0:1;g0" = 2
            mean(*) = 4609434218613702656 4609434218613702656 4609434218613702656
            """);
        s.test("of each SIDE", SIDED + """
            mean(0) = double 20/8
            mean(1) = double 20/8
            mean(2) = double 23/9
            """);
        s.sentence("NO: side.");
        s.refusedFor("NO", THINGS, "mean(?)", NO_SIDES);
    }

    private static void annihilator(Sentences s) {
        s.promise(25);
        s.sentence("ANNIHILATOR: RANK (what 0), RANK AGAIN (1), whether all of THE IDEAL lies in that (2; 1, 0), the first LEAD"
            + " of its BASIS (3; -5: RANK 0).");
        s.test("of nothing", """
            annihilator(0, 0, *) = 8 0 1 0
            annihilator(2, 1, *) = 8 0 1 0
            """);
        s.test("of all", """
            read "0:1;g0" = 2
            annihilator(0, 0, *) = 0 8 1 -5
            annihilator(1, 1, *) = 0 8 1 -5
            """);
        s.test("of each SIDE by each hand", SIDED + """
            annihilator(0, 0, *) = 7 9 1 3
            annihilator(0, 1, *) = 8 8 1 1
            annihilator(1, 0, *) = 8 8 1 1
            annihilator(1, 1, *) = 7 9 1 3
            annihilator(2, 0, *) = 7 9 1 3
            annihilator(2, 1, *) = 7 9 1 3
            """);
        s.test("the first lead by degree", """
            read "o1;0:ab+2c;g0" = 3
            annihilator(0, 0, *) = 4 4 1 4
            """);
        s.test("GENERATORS that are gone count no more", """
            read "0:a;1:bc;g0" = 3
            annihilator(*, 0, 0) = 4 4 4
            read "x;g1" = 2
            annihilator(0, 0, *) = 6 2 1 2
            annihilator(1, 0, *) = 6 2 1 2
            annihilator(2, 0, *) = 6 2 1 2
            clear() = 1
            annihilator(0, 0, *) = 8 0 1 0
            annihilator(2, 1, *) = 8 0 1 0
            """);
        s.sentence("NONE: side, hand (0, 1), what.");
        s.refusedFor("NONE", THINGS, "annihilator(?, 0, 0)", NO_SIDES);
        s.refusedFor("NONE", THINGS, "annihilator(0, ?, 0)", NO_HANDS);
        s.refusedFor("NONE", THINGS, "annihilator(0, 0, ?)", "-1", "4", "MIN", "MAX");
    }

    private static void annihilates(Sentences s) {
        s.promise(26);
        s.sentence("The number of BASIS i of the ANNIHILATOR at a PLACE.");
        s.test("of nothing: each place by itself", """
            annihilates(0, 0, 0, *) = 1 0 0 0 0 0 0 0
            annihilates(2, 1, 7, *) = 0 0 0 0 0 0 0 1
            """);
        s.test("of each SIDE by each hand", SIDED + """
            annihilates(0, 1, 0, *) = 0 1 0 0 0 0 4 0 0 0 0 0 0 0 0 0
            annihilates(1, 0, 0, *) = 0 1 0 0 0 0 4 0 0 0 0 0 0 0 0 0
            annihilates(2, 0, 0, *) = 0 0 0 1 0 0 0 0 0 0 0 0 0 0 0 0
            annihilates(2, 1, 6, *) = 0 0 0 0 0 0 0 0 0 0 0 0 0 0 0 1
            """);
        s.sentence("NONE: side, hand, i, place.");
        s.refusedFor("NONE", THINGS, "annihilates(?, 0, 0, 0)", NO_SIDES);
        s.refusedFor("NONE", THINGS, "annihilates(0, ?, 0, 0)", NO_HANDS);
        s.refusedFor("NONE", THINGS, "annihilates(0, 0, ?, 0)", "-1", "2", "3", "8", "MIN", "MAX");
        s.refusedFor("NONE", THINGS, "annihilates(0, 0, 0, ?)", NO_PLACES);
        s.refused("NONE", "", "annihilates(0, 0, 8, 0)");
        s.refused("NONE", "letters(4) = 3", "annihilates(0, 0, 16, 0)", "annihilates(0, 0, 0, 16)");
        s.refused("NONE", "letters(2) = 3", "annihilates(0, 0, 4, 0)", "annihilates(0, 0, 0, 4)");
        s.refused("NONE", "read \"0:1;g0\" = 2", "annihilates(0, 0, 0, 0)");
    }

    private static void step(Sentences s) {
        s.promise(27);
        s.sentence("STEP k (0 .. 2).");
        s.test("two letters", """
            read "n2;0:a;1:b;g0;g1" = 5
            step(*) = 2 3 4 NONE
            """);
        s.test("three letters", """
            read "0:ab;1:ac;2:bc;g0;g1;g2" = 6
            step(*) = 3 8 15 NONE
            """);
        s.test("four letters", """
            read "n4;0:a;1:b;2:c;3:d;g0;g1;g2;g3" = 9
            step(*) = 4 10 STATE NONE
            """);
        s.test("they follow each change", """
            read "0:a;g0" = 2
            step(*) = 1 1 1
            read "1:bc;g1" = 2
            step(*) = 2 4 7
            step(*) = 2 4 7
            read "x;0:abc;g0" = 3
            step(*) = 1 3 6
            clear() = 1
            step(*) = 0 0 0
            """);
        s.sentence("NONE: k;");
        s.refusedFor("NONE", THINGS, "step(?)", "-1", "3", "MIN", "MAX");
        s.refusedFor("NONE", "letters(4) = 3", "step(?)", "-1", "3");
        s.sentence("STATE: k is 2, and n 4.");
        s.refused("STATE", "letters(4) = 3", "step(2)");
        s.refused("STATE", "read \"n4;0:abcd;g0\" = 3", "step(2)");
        s.test("not with fewer letters, not ahead of 2", """
            letters(2) = 3
            step(2) = 0
            letters(4) = 2
            step(1) = 0
            step(0) = 0
            """);
    }

    private static void fits(Sentences s) {
        s.promise(28);
        s.sentence("FITS: what 0 how many, 1 the least (-5).");
        s.test("none, one, all", """
            read "0:a+2b;g0;1:3a;2:1;3:2ab" = 5
            fits(0, 1, 0, *) = 0 -5 NONE
            fits(0, 1, 1, *) = 1 0
            fits(0, 1, 2, *) = 1 1
            fits(0, 3, 3, *) = 5 0
            fits(0, 2, 0, *) = 1 0
            """);
        s.test("of each SIDE", SIDED + """
            fits(0, 3, 9, *) = 1 4
            fits(1, 3, 9, *) = 1 1
            fits(2, 3, 9, *) = 5 0
            """);
        s.sentence("NONE: side, element, place, what.");
        s.refusedFor("NONE", THINGS, "fits(?, 0, 0, 0)", NO_SIDES);
        s.refusedFor("NONE", THINGS, "fits(0, ?, 0, 0)", NO_ELEMENTS);
        s.refusedFor("NONE", THINGS, "fits(0, 0, ?, 0)", NO_PLACES);
        s.refusedFor("NONE", THINGS, "fits(0, 0, 0, ?)", "-1", "2", "MIN", "MAX");
        s.refused("NONE", "letters(2) = 3", "fits(0, 0, 4, 0)");
        s.refused("NONE", "letters(4) = 3", "fits(0, 0, 16, 0)");
    }

    private static void odds(Sentences s) {
        s.promise(29);
        s.sentence("ODDS; part 0 above, 1 below the line.");
        s.test("the least and the greatest below", """
            read "n4;p7" = 2
            odds(0, *) = 1 33232930569601
            read "0:1;g0" = 2
            odds(0, *) = 1 1
            """);
        s.test("of each SIDE", SIDED + """
            odds(0, *) = 1 390625
            odds(1, *) = 1 390625
            odds(2, *) = 1 78125
            """);
        s.sentence("NO: side, part.");
        s.refusedFor("NO", THINGS, "odds(?, 0)", NO_SIDES);
        s.refusedFor("NO", THINGS, "odds(0, ?)", "-1", "2", "MIN", "MAX");
    }

    private static void event(Sentences s) {
        s.promise(30);
        s.sentence("A row comes to EVENTS: how many there are (what -1: none then, 0, whatever the rest is).");
        s.test("one to eight", """
            event(0, 0) = 1
            event(0, 5) = 2
            event(1, 0) = 3
            event(1, 3) = 4
            event(2, 3) = 5
            event(3, 0) = 6
            event(3, 1) = 7
            event(4, 3) = 8
            counted(0) = 8
            """);
        for (String rest : new String[] {"0", "-1", "99", "MIN", "MAX"}) {
            s.test("what -1, the rest " + rest, "8 times event(0, 0)\nevent(-1, " + rest + ") = 0\n" + """
                counted(0) = 0
                event(0, 0) = 1
                """);
        }
        s.test("what -1 without rows", """
            event(-1, 0) = 0
            counted(0) = 0
            """);
        s.sentence("NONE: what (0 .. 4), ELEMENT n (0), KIND n (3);");
        s.refusedFor("NONE", THINGS, "event(?, 0)", "-2", "5", "MIN", "MAX");
        s.refusedFor("NONE", THINGS, "event(?, 9)", "-2", "5");
        s.refusedFor("NONE", THINGS, "event(0, ?)", NO_ELEMENTS);
        s.refusedFor("NONE", THINGS, "event(3, ?)", "-1", "2", "MIN", "MAX");
        s.sentence("BAD: n isn't 0 .. 3 (1, 2, 4);");
        for (int what : new int[] {1, 2, 4}) {
            s.refusedFor("BAD", THINGS, "event(" + what + ", ?)", "-1", "4", "MIN", "MAX");
        }
        s.sentence("FULL: 8.");
        s.refused("FULL", "8 times event(0, 0)", "event(0, 0)", "event(1, 3)", "event(3, 1)", "event(4, 0)");
    }

    private static void after(Sentences s) {
        s.promise(31);
        s.sentence("AFTER by a SIDE: what 0 RANK, 1 the first LEAD (-5), 2 how many GENERATORS.");
        s.test("of nothing", """
            after(0, *) = 0 -5 0
            after(2, *) = 0 -5 0
            """);
        s.test("of each SIDE", SIDED + """
            event(1, 3) = 1
            event(0, 2) = 2
            after(*, 0) = 5 5 5
            after(*, 1) = 9 9 9
            after(*, 2) = 2 2 2
            event(-1, 0) = 0
            after(*, 0) = 8 8 9
            """);
        s.test("the object stays as it is", """
            read "0:a;1:b;g0" = 3
            event(4, 0) = 1
            event(0, 1) = 2
            event(3, 1) = 3
            after(0, *) = 4 2 1
            told(*) = 3 5 0 1 8
            generator(0, *) = 0 1 0 0 0 0 0 0
            rank(0) = 4
            basis(0, 0, -1) = 1
            """);
        s.sentence("NONE: side, what.");
        s.refusedFor("NONE", THINGS, "after(?, 0)", NO_SIDES);
        s.refusedFor("NONE", THINGS, "after(0, ?)", "-1", "3", "MIN", "MAX");
    }

    private static void book(Sentences s) {
        s.promise(32);
        s.sentence("A row comes to the BOOK: how many there are (spot -1: it is empty then, 0, whatever the rest is).");
        s.test("one to eight", """
            book(0, 0) = 1
            book(7, 6) = 2
            book(100, 1) = 3
            book(507, 2) = 4
            book(0, 0) = 5
            book(0, 0) = 6
            book(0, 0) = 7
            book(0, 0) = 8
            counted(1) = 8
            """);
        for (String rest : new String[] {"0", "-1", "7", "MIN", "MAX"}) {
            s.test("spot -1, the rest " + rest, "8 times book(0, 1)\nbook(-1, " + rest + ") = 0\n" + """
                counted(1) = 0
                looked() = -5
                book(0, 0) = 1
                """);
        }
        s.test("spot -1 without rows", """
            book(-1, 0) = 0
            counted(1) = 0
            """);
        s.sentence("NONE: no such SPOT now;");
        s.refusedFor("NONE", THINGS, "book(?, 0)", "-2", "-100", "8", "99", "108", "199", "508", "599", "600", "607", "MIN",
            "MAX");
        s.refusedFor("NONE", THINGS, "book(?, 7)", "-2", "8", "600");
        s.refusedFor("NONE", "letters(2) = 3", "book(?, 0)", "4", "7", "504");
        s.refusedFor("NONE", "letters(4) = 3", "book(?, 0)", "16", "99", "516", "615");
        s.test("the last spot with four letters, and with two", """
            letters(4) = 3
            book(515, 0) = 1
            letters(2) = 4
            book(503, 0) = 2
            """);
        s.sentence("BAD: v (0 .. 6);");
        s.refusedFor("BAD", THINGS, "book(0, ?)", "-1", "7", "MIN", "MAX");
        s.sentence("FULL: 8.");
        s.refused("FULL", "8 times book(0, 0)", "book(0, 0)", "book(507, 6)");
        s.refused("NONE", "8 times book(0, 0)", "book(8, 0)");
        s.refused("BAD", "8 times book(0, 0)", "book(0, 7)");
    }

    private static void looked(Sentences s) {
        s.promise(33);
        s.sentence("LOOKED at; -5.");
        s.test("no rows, and rows that are all so", """
            looked() = -5
            book(0, 0) = 1
            book(507, 0) = 2
            looked() = -5
            """);
        s.test("the first of them that is otherwise", """
            book(0, 0) = 1
            book(1, 1) = 2
            book(2, 1) = 3
            looked() = 1
            set(0, 1, 1) = 0
            looked() = 2
            set(0, 2, 6) = 0
            looked() = -5
            set(0, 0, 1) = 0
            looked() = 0
            """);
        s.test("a place that isn't there", """
            book(7, 0) = 1
            letters(2) = 3
            looked() = 0
            letters(3) = 2
            looked() = -5
            """);
    }
}
