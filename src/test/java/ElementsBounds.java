/** Promises 1 to 17: elements, texts, and what is told. */
final class ElementsBounds {
    private static final String THINGS = Sentences.THINGS;
    private static final String[] NO_ELEMENTS = {"-1", "6", "MIN", "MAX"};
    private static final String[] NO_PLACES = {"-1", "8", "15", "MIN", "MAX"};

    private ElementsBounds() {
    }

    static void all(Sentences s) {
        newObject(s);
        letters(s);
        prime(s);
        order(s);
        set(s);
        product(s);
        mix(s);
        becomes(s);
        generate(s);
        clear(s);
        feed(s);
        read(s);
        of(s);
        told(s);
        generator(s);
        places(s);
        lead(s);
    }

    private static void newObject(Sentences s) {
        s.promise(1);
        s.sentence("Three LETTERS, modulo 5, all ELEMENTS 0, no GENERATORS.");
        s.test("three letters, modulo 5, no generators", "told(*) = 3 5 0 0 8 NONE");
        for (int element = 0; element <= 5; element++) {
            s.test("element " + element + " is 0", "of(" + element + ", *) = 0 0 0 0 0 0 0 0 NONE");
        }
        s.test("no generator", """
            generator(0, 0) = NONE
            clear() = 0
            """);
        s.test("nothing else is there either", """
            counted(*) = 0 0 0
            looked() = -5
            read() = -10
            peek(*, 0) = NO NO NO NO NO NO
            undo() = STATE
            """);
    }

    private static void letters(Sentences s) {
        s.promise(2);
        s.sentence("There are n LETTERS;");
        s.test("two, three and four", """
            letters(2) = 3
            told(*) = 2 5 0 0 4
            letters(3) = 2
            told(*) = 3 5 0 0 8
            letters(4) = 3
            told(*) = 4 5 0 0 16
            """);
        s.sentence("all ELEMENTS are 0, there are no GENERATORS:");
        for (int n = 2; n <= 4; n++) {
            String noughts = " = 0 0 0 0" + " 0 0 0 0".repeat((1 << n) / 4 - 1) + " NONE\n";
            s.test("for " + n, "read \"n4;0:1+abcd;1:a;2:b;3:c;4:d;5:1+a+ab+abc;g0;g5;g1;g2\" = 11\n"
                + "letters(" + n + ") = 4\n"
                + "told(3) = 0\n"
                + "rank(0) = 0\n"
                + "of(0, *)" + noughts + "of(1, *)" + noughts + "of(2, *)" + noughts + "of(3, *)" + noughts
                + "of(4, *)" + noughts + "of(5, *)" + noughts);
        }
        s.test("what was beyond fewer letters does not come back", """
            read "n4;0:abcd+d" = 2
            letters(2) = 4
            letters(4) = 2
            of(0, *) = 0 0 0 0 0 0 0 0 0 0 0 0 0 0 0 0
            """);
        s.test("the prime, ORDER, EVENTS, the BOOK, the text and tapes stay", """
            prime(7) = 5
            order(1) = 0
            event(0, 1) = 1
            book(0, 6) = 1
            feed(120) = 1
            tape(0, 3, 2) = 1
            letters(2) = 3
            told(*) = 2 7 1 0 4
            counted(*) = 1 1 1
            peek(0, *) = 0 0 NO
            looked() = 0
            """);
        s.sentence("how many there were.");
        s.test("also for the same number", """
            letters(3) = 3
            letters(4) = 3
            letters(4) = 4
            letters(2) = 4
            letters(2) = 2
            """);
        s.sentence("BAD.");
        s.refusedFor("BAD", THINGS, "letters(?)", "1", "5", "0", "-1", "-3", "MIN", "MAX");
    }

    private static void prime(Sentences s) {
        s.promise(3);
        s.sentence("THE PRIME becomes p;");
        for (int p : new int[] {2, 3, 5, 7}) {
            s.test("" + p, "prime(" + p + ") = 5\ntold(1) = " + p + "\nset(0, 0, -1) = 0\nof(0, 0) = " + (p - 1) + "\n");
        }
        s.sentence("all ELEMENTS are 0, there are no GENERATORS:");
        for (int p : new int[] {2, 3, 5, 7}) {
            s.test("for " + p, "read \"0:1+abc;5:1+a+ab;g0;g5;g1;g2\" = 6\n"
                + "prime(" + p + ") = 5\n" + """
                told(3) = 0
                rank(0) = 0
                of(0, *) = 0 0 0 0 0 0 0 0
                of(5, *) = 0 0 0 0 0 0 0 0
                """);
        }
        s.test("letters, ORDER, EVENTS, the BOOK, the text and tapes stay", """
            letters(4) = 3
            order(1) = 0
            event(0, 1) = 1
            book(15, 0) = 1
            feed(120) = 1
            tape(0, 3, 2) = 1
            prime(2) = 5
            told(*) = 4 2 1 0 16
            counted(*) = 1 1 1
            peek(0, *) = 0 0 NO
            looked() = -5
            """);
        s.sentence("what it was.");
        s.test("also for the same number", """
            prime(5) = 5
            prime(7) = 5
            prime(7) = 7
            prime(2) = 7
            prime(3) = 2
            """);
        s.sentence("BAD.");
        s.refusedFor("BAD", THINGS, "prime(?)", "0", "1", "4", "6", "8", "9", "11", "-1", "-2", "-5", "MIN", "MAX");
    }

    private static void order(Sentences s) {
        s.promise(4);
        s.sentence("ORDER becomes of a KIND (0, 1):");
        s.test("either", """
            read "0:ab+c" = 1
            order(1) = 0
            told(2) = 1
            lead(0) = 4
            order(0) = 1
            told(2) = 0
            lead(0) = 3
            """);
        s.test("bases follow, generators and elements stay", """
            read "0:ab+c;g0" = 2
            basis(0, 0, -1) = 3
            order(1) = 0
            basis(0, 0, -1) = 4
            generator(0, *) = 0 0 0 1 1 0 0 0
            of(0, *) = 0 0 0 1 1 0 0 0
            """);
        s.sentence("which it was of.");
        s.test("also for the same KIND", """
            order(0) = 0
            order(1) = 0
            order(1) = 1
            order(0) = 1
            """);
        s.sentence("NONE.");
        s.refusedFor("NONE", THINGS, "order(?)", "-1", "2", "MIN", "MAX");
    }

    private static void set(Sentences s) {
        s.promise(5);
        s.sentence("The number of an ELEMENT at a PLACE becomes v, modulo p (0 .. p - 1; v may be below 0):");
        s.test("up to p - 1, from p on, below 0", """
            set(0, 0, 4) = 0
            set(0, 0, 5) = 4
            set(0, 0, 6) = 0
            set(0, 0, -1) = 1
            set(0, 0, -5) = 4
            set(0, 0, -6) = 0
            of(0, 0) = 4
            """);
        s.test("the least and the greatest int", """
            prime(7) = 5
            set(0, 0, MIN) = 0
            set(0, 0, MAX) = 5
            of(0, 0) = 1
            """);
        s.test("there alone", """
            set(5, 7, 3) = 0
            of(5, *) = 0 0 0 0 0 0 0 3
            of(*, 7) = 0 0 0 0 0 3
            """);
        s.sentence("what it was.");
        s.test("0 at first, then what came", """
            set(2, 3, 12) = 0
            set(2, 3, 12) = 2
            set(2, 3, 0) = 2
            set(2, 3, 0) = 0
            """);
        s.sentence("NONE: element, place.");
        s.refusedFor("NONE", THINGS, "set(?, 0, 1)", NO_ELEMENTS);
        s.refusedFor("NONE", THINGS, "set(0, ?, 1)", NO_PLACES);
        s.refused("NONE", "letters(2) = 3", "set(0, 4, 1)");
        s.refused("NONE", "letters(4) = 3", "set(0, 16, 1)");
    }

    private static void product(Sentences s) {
        s.promise(6);
        s.sentence("ELEMENT k becomes PRODUCT a b of two ELEMENTS (as they were):");
        s.test("a third one", """
            read "0:a;1:b+c;5:1+abc" = 3
            product(5, 0, 1) = 2
            of(5, *) = 0 0 0 1 0 1 0 0
            """);
        s.test("the first of them", """
            read "0:2+c;1:3a-bc" = 2
            product(0, 0, 1) = 3
            of(0, *) = 0 1 0 0 0 2 3 0
            of(1, *) = 0 3 0 0 0 0 4 0
            """);
        s.test("the second of them", """
            read "0:2+c;1:3a-bc" = 2
            product(1, 0, 1) = 3
            of(1, *) = 0 1 0 0 0 2 3 0
            of(0, *) = 2 0 0 0 1 0 0 0
            """);
        s.test("all three the same", """
            read "0:1+a+b" = 1
            product(0, 0, 0) = 3
            of(0, *) = 1 2 2 0 0 0 0 0
            """);
        s.sentence("at how many PLACES it isn't 0.");
        s.test("none", """
            read "0:abc;1:a" = 2
            product(2, 0, 1) = 0
            """);
        s.test("PLACES that there are no more don't count", """
            read "n4;0:1+d;1:1+c" = 3
            product(2, 0, 0) = 2
            read "n3" = 1
            product(2, 0, 0) = 0
            read "1:1+c" = 1
            product(2, 1, 1) = 2
            read "n2" = 1
            product(2, 0, 0) = 0
            """);
        s.test("all sixteen", """
            read "n4;p7;0:1+a;1:1+b;2:1+c;3:1+d" = 6
            product(0, 0, 1) = 4
            product(0, 0, 2) = 8
            product(0, 0, 3) = 16
            """);
        s.sentence("NONE: any of the three.");
        s.refusedFor("NONE", THINGS, "product(?, 0, 1)", NO_ELEMENTS);
        s.refusedFor("NONE", THINGS, "product(0, ?, 1)", NO_ELEMENTS);
        s.refusedFor("NONE", THINGS, "product(0, 1, ?)", NO_ELEMENTS);
    }

    private static void mix(Sentences s) {
        s.promise(7);
        s.sentence("ELEMENT k becomes u times a and v times b, together (as they were; u, v modulo p):");
        s.test("below 0 and beyond p", """
            read "0:a+2b;1:1+3b" = 2
            mix(2, 0, -1, 1, 7) = 3
            of(2, *) = 2 4 4 0 0 0 0 0
            """);
        s.test("the least and the greatest int", """
            read "0:a+2b;1:1+3b" = 2
            mix(2, 0, MIN, 1, MAX) = 2
            of(2, *) = 2 2 0 0 0 0 0 0
            mix(2, 0, MAX, 1, MIN) = 2
            of(2, *) = 2 2 0 0 0 0 0 0
            mix(2, 0, MAX, 0, MAX) = 2
            of(2, *) = 0 4 3 0 0 0 0 0
            """);
        s.test("times 0", """
            read "0:a;1:b;2:c" = 3
            mix(2, 0, 0, 1, 0) = 0
            mix(2, 0, 5, 1, 1) = 1
            of(2, *) = 0 0 1 0 0 0 0 0
            """);
        s.test("the first, the second, both", """
            read "0:a+2b;1:1+3b" = 2
            mix(0, 0, 2, 1, 1) = 3
            of(0, *) = 1 2 2 0 0 0 0 0
            mix(1, 0, 1, 1, 1) = 2
            of(1, *) = 2 2 0 0 0 0 0 0
            mix(1, 1, 2, 1, 2) = 2
            of(1, *) = 3 3 0 0 0 0 0 0
            """);
        s.test("with four letters, up to the last place", """
            read "n4;p7;0:6abcd+d;1:6abcd+1" = 4
            mix(5, 0, 6, 1, 6) = 3
            of(5, *) = 6 0 0 0 0 0 0 0 6 0 0 0 0 0 0 2
            """);
        s.sentence("at how many PLACES it isn't 0.");
        s.test("none, by what is taken away", """
            read "0:1+a+abc" = 1
            mix(1, 0, 2, 0, 3) = 0
            mix(1, 0, 1, 0, -1) = 0
            """);
        s.test("all", """
            read "n2;0:1+a;1:b+ab" = 3
            mix(0, 0, 1, 1, 1) = 4
            """);
        s.sentence("NONE: any of the three.");
        s.refusedFor("NONE", THINGS, "mix(?, 0, 1, 1, 1)", NO_ELEMENTS);
        s.refusedFor("NONE", THINGS, "mix(0, ?, 1, 1, 1)", NO_ELEMENTS);
        s.refusedFor("NONE", THINGS, "mix(0, 1, 1, ?, 1)", NO_ELEMENTS);
    }

    private static void becomes(Sentences s) {
        s.promise(8);
        s.sentence("ELEMENT k becomes a TURNED (how 0), COMPLEMENT of a (1), REST of a by LEFT (2), RIGHT (3), BOTH (4):");
        String sided = "read \"n4;0:a+bc;g0;1:bcd-ad;2:ad+bcd\" = 5\n";
        s.test("turned", """
            read "0:1+a+ab+abc" = 1
            becomes(1, 0, 0) = 4
            of(1, *) = 1 1 0 4 0 0 0 4
            """);
        s.test("the complement", """
            read "0:1+b" = 1
            becomes(1, 0, 1) = 2
            of(1, *) = 0 0 0 0 0 4 0 1
            """);
        s.test("by left", sided + """
            becomes(4, 1, 2) = 0
            becomes(4, 2, 2) = 1
            of(4, 14) = 2
            """);
        s.test("by right", sided + """
            becomes(4, 2, 3) = 0
            becomes(4, 1, 3) = 1
            of(4, 14) = 2
            """);
        s.test("by both", sided + """
            becomes(4, 1, 4) = 0
            becomes(4, 2, 4) = 0
            """);
        s.test("into itself, each way", """
            read "0:2a+c;g0;1:1+a+b+c+3ab" = 3
            becomes(1, 1, 2) = 4
            of(1, *) = 1 0 1 0 3 0 4 0
            becomes(1, 1, 0) = 4
            of(1, *) = 1 0 1 0 3 0 1 0
            becomes(1, 1, 1) = 4
            of(1, *) = 0 1 0 3 0 4 0 1
            """);
        s.test("the generator that it was stays", """
            read "0:a;g0" = 2
            becomes(0, 0, 2) = 0
            of(0, 1) = 0
            generator(0, 1) = 1
            rank(0) = 4
            """);
        s.sentence("at how many PLACES it isn't 0.");
        s.test("none, all", """
            becomes(0, 1, 0) = 0
            becomes(0, 1, 1) = 0
            becomes(0, 1, 4) = 0
            read "n2;0:1+a+b+ab" = 2
            becomes(1, 0, 0) = 4
            becomes(1, 0, 1) = 4
            becomes(1, 0, 3) = 4
            """);
        s.sentence("NONE: either, how.");
        s.refusedFor("NONE", THINGS, "becomes(?, 0, 0)", NO_ELEMENTS);
        s.refusedFor("NONE", THINGS, "becomes(0, ?, 4)", NO_ELEMENTS);
        s.refusedFor("NONE", THINGS, "becomes(0, 1, ?)", "-1", "5", "MIN", "MAX");
    }

    private static void generate(Sentences s) {
        s.promise(9);
        s.sentence("An ELEMENT comes to GENERATORS:");
        s.test("behind those that are there", """
            read "0:a;5:2b" = 2
            generate(5) = 1
            generate(0) = 2
            generator(0, *) = 0 0 2 0 0 0 0 0
            generator(1, *) = 0 1 0 0 0 0 0 0
            rank(0) = 6
            """);
        s.test("twice the same, and one that is all 0", """
            read "0:a" = 1
            generate(0) = 1
            generate(0) = 2
            generate(1) = 3
            rank(0) = 4
            """);
        s.sentence("how many there are.");
        s.test("one to four", """
            generate(0) = 1
            generate(1) = 2
            generate(2) = 3
            generate(3) = 4
            told(3) = 4
            """);
        s.test("from one again, when they were cleared", """
            4 times generate(0)
            clear() = 4
            generate(0) = 1
            """);
        s.sentence("NONE;");
        s.refusedFor("NONE", THINGS, "generate(?)", NO_ELEMENTS);
        s.refusedFor("NONE", THINGS + "generate(3) = 4\n", "generate(?)", NO_ELEMENTS);
        s.sentence("FULL: 4.");
        s.refusedFor("FULL", THINGS + "generate(3) = 4\n", "generate(?)", "0", "5");
    }

    private static void clear(Sentences s) {
        s.promise(10);
        s.sentence("There are no GENERATORS:");
        s.test("nor an ideal; elements stay", """
            read "0:a;g0;g0" = 3
            rank(0) = 4
            clear() = 2
            told(3) = 0
            generator(0, 1) = NONE
            rank(*) = 0 0 0
            of(0, 1) = 1
            """);
        s.sentence("how many there were.");
        s.test("none, four, none", """
            clear() = 0
            4 times generate(0)
            clear() = 4
            clear() = 0
            """);
    }

    private static void feed(Sentences s) {
        s.promise(11);
        s.sentence("A sign (0 .. 127) comes behind THE TEXT's:");
        s.test("behind", """
            feed(103) = 1
            feed(48) = 2
            read() = 1
            told(3) = 1
            """);
        s.test("0 and 127 are signs", """
            feed(0) = 1
            feed(127) = 2
            counted(2) = 2
            read() = -10
            """);
        s.sentence("how many it has.");
        s.test("one to a hundred", """
            98 times feed(120)
            feed(120) = 99
            feed(120) = 100
            counted(2) = 100
            """);
        s.test("from one again, when it was read", """
            feed(120) = 1
            read() = 1
            feed(120) = 1
            """);
        s.sentence("BAD;");
        s.refusedFor("BAD", THINGS, "feed(?)", "-1", "128", "255", "MIN", "MAX");
        s.sentence("FULL.");
        s.refusedFor("FULL", "100 times feed(120)", "feed(?)", "0", "59", "127");
        s.refusedFor("BAD", "100 times feed(120)", "feed(?)", "-1", "128");
    }

    private static void read(Sentences s) {
        s.promise(12);
        s.sentence("THE TEXT, which is empty then (by a FAULT, too), is a set-up:");
        s.test("empty behind a set-up", """
            read "0:a" = 1
            counted(2) = 0
            read() = -10
            """);
        s.test("empty behind a FAULT", """
            read "0:a+" = -14
            counted(2) = 0
            read() = -10
            """);
        s.test("empty behind clauses that are not done", """
            read "6:a" = 0
            counted(2) = 0
            read() = -10
            """);
        s.test("a shorter text finds nothing of a longer one", """
            read "0:a+b+c" = 1
            read "0:a" = 1
            of(0, *) = 0 1 0 0 0 0 0 0
            read "0:" = -12
            of(0, *) = 0 1 0 0 0 0 0 0
            """);
        s.sentence("how many CLAUSES were done;");
        s.test("none, some, all twelve", """
            read "6:a;g6;n1" = 0
            read "6:a;g5;n1" = 1
            read "x;x;x;x;x;x;x;x;x;x;x;x" = 12
            """);
        s.sentence("-10 less the FAULT.");
        s.test("at 0, at the end, at the last of a hundred", "read() = -10\nread \"z\" = -10\nread \"x;\" = -12\n"
            + "read \"0:" + "a+".repeat(48) + "bz\" = -109\n"
            + "read \"0:" + "a+".repeat(49) + "\" = -110\n");
        s.test("nothing is done then", """
            read "0:a;g0;z" = -17
            told(3) = 0
            of(0, 1) = 0
            """);
    }

    private static void of(Sentences s) {
        s.promise(13);
        s.sentence("The number of an ELEMENT at a PLACE.");
        s.test("the first and the last of both", """
            read "0:1+2abc;5:3+4abc" = 2
            of(0, *) = 1 0 0 0 0 0 0 2
            of(5, *) = 3 0 0 0 0 0 0 4
            """);
        s.sentence("NONE: element, place.");
        s.refusedFor("NONE", THINGS, "of(?, 0)", NO_ELEMENTS);
        s.refusedFor("NONE", THINGS, "of(0, ?)", NO_PLACES);
        s.refused("NONE", "letters(2) = 3", "of(0, 4)");
        s.refused("NONE", "letters(4) = 3", "of(5, 16)");
    }

    private static void told(Sentences s) {
        s.promise(14);
        s.sentence("0 n, 1 p, 2 ORDER, 3 how many GENERATORS, 4 how many PLACES.");
        s.test("the least of all", """
            read "n2;p2" = 2
            told(*) = 2 2 0 0 4
            """);
        s.test("the most of all", """
            read "n4;p7;o1;g0;g0;g0;g0" = 7
            told(*) = 4 7 1 4 16
            """);
        s.sentence("NONE.");
        s.refusedFor("NONE", THINGS, "told(?)", "-1", "5", "MIN", "MAX");
    }

    private static void generator(Sentences s) {
        s.promise(15);
        s.sentence("The number of a GENERATOR at a PLACE.");
        s.test("the first and the last of both", """
            read "0:1+2abc;g0;g1;g1;1:3+4abc;g1" = 6
            generator(0, *) = 1 0 0 0 0 0 0 2
            generator(3, *) = 3 0 0 0 0 0 0 4
            """);
        s.sentence("NONE: generator, place.");
        s.refusedFor("NONE", THINGS, "generator(?, 0)", "-1", "3", "4", "MIN", "MAX");
        s.refusedFor("NONE", THINGS, "generator(0, ?)", NO_PLACES);
        s.refused("NONE", "", "generator(0, 0)");
        s.refused("NONE", "4 times generate(0)", "generator(4, 0)");
        s.refused("NONE", "read \"n2;g0\" = 2", "generator(0, 4)");
        s.refused("NONE", "read \"n4;g0\" = 2", "generator(0, 16)");
    }

    private static void places(Sentences s) {
        s.promise(16);
        s.sentence("PRODUCT of two PLACES: 100 times the PLACE, and SIGN, and 1, together;");
        s.test("from the least to the greatest", """
            letters(4) = 3
            places(0, 0) = 2
            places(2, 1) = 300
            places(1, 2) = 302
            places(8, 7) = 1500
            places(7, 8) = 1502
            """);
        s.sentence("-5: there is none.");
        s.test("a letter in common", """
            places(1, 1) = -5
            places(3, 2) = -5
            places(7, 7) = -5
            """);
        s.sentence("NONE: either.");
        s.refusedFor("NONE", THINGS, "places(?, 0)", NO_PLACES);
        s.refusedFor("NONE", THINGS, "places(0, ?)", NO_PLACES);
        s.refused("NONE", "letters(2) = 3", "places(4, 0)", "places(0, 4)");
        s.refused("NONE", "letters(4) = 3", "places(16, 0)", "places(0, 16)", "places(16, 16)");
    }

    private static void lead(Sentences s) {
        s.promise(17);
        s.sentence("LEAD of an ELEMENT;");
        s.test("of the first and the last, in both orders", """
            read "0:ab+c;5:abc" = 2
            lead(0) = 3
            lead(5) = 7
            order(1) = 0
            lead(0) = 4
            lead(5) = 7
            """);
        s.sentence("-5: it is all 0.");
        s.test("at first, and again", """
            lead(0) = -5
            set(0, 7, 1) = 0
            lead(0) = 7
            set(0, 7, 5) = 1
            lead(0) = -5
            """);
        s.sentence("NONE.");
        s.refusedFor("NONE", THINGS, "lead(?)", NO_ELEMENTS);
    }
}
