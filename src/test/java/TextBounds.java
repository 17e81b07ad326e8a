/** "Terms", part 1: the set-up that is read from THE TEXT; and what "In doubt" says of it. */
final class TextBounds {
    /** What stands ahead of each text in error, so that it is seen that nothing of it is done. */
    private static final String SOME = "read \"o1;0:2a;1:b;g0\" = 4\n";

    private TextBounds() {
    }

    static void all(Sentences s) {
        s.section("Terms 1");
        theText(s);
        clauses(s);
        becomesSum(s);
        generators(s);
        lettersPrimeOrder(s);
        sums(s);
        terms(s);
        letters(s);
        blanks(s);
        faults(s);
        done(s);
        s.section("In doubt");
        inDoubt(s);
    }

    private static void fault(Sentences s, String text, int place) {
        s.test("FAULT of " + text, SOME + "read \"" + text + "\" = " + (-10 - place) + "\n" + """
            counted(2) = 0
            told(*) = 3 5 1 1 8
            of(0, *) = 0 2 0 0 0 0 0 0
            of(1, *) = 0 0 1 0 0 0 0 0
            """);
    }

    private static void done(Sentences s, String text, int clauses) {
        s.test("done of " + text, "read \"" + text + "\" = " + clauses);
    }

    /** What ELEMENT 0 is after such a sum, with four letters, modulo 5. */
    private static void sum(Sentences s, String text, String numbers) {
        s.test("the sum " + text, "read \"n4;0:1+2a+3b+4c+d+abcd;0:" + text + "\" = 3\nof(0, *) = " + numbers);
    }

    private static void theText(Sentences s) {
        s.sentence("A set-up is read from THE TEXT (bytes, 100 at most):");
        s.test("a set-up of 100 bytes", "read \"0:" + "a+".repeat(48) + "2b\" = 1\n" + """
            of(0, *) = 0 3 2 0 0 0 0 0
            """);
        s.test("the byte number 101 does not come to it", "feed \"0:" + "a+".repeat(48) + "2b\"\n" + """
            feed(99) = FULL
            counted(2) = 100
            read() = 1
            of(0, *) = 0 3 2 0 0 0 0 0
            """);
        s.test("a FAULT at the last of 100 bytes", "read \"0:" + "a+".repeat(48) + "b0\" = -109\n");
        s.test("100 bytes with no end", "read \"0:" + "a+".repeat(49) + "\" = -110\n");
        s.test("the empty one is no set-up", "read() = -10");
    }

    private static void clauses(Sentences s) {
        s.sentence("CLAUSES, 1 to 12, with ; between:");
        done(s, "x", 1);
        done(s, "x;x", 2);
        done(s, "x;x;x;x;x;x;x;x;x;x;x;x", 12);
        done(s, "0:1;1:a;2:b;3:c;4:ab;5:ac;g0;g1;g2;g3;o1;x", 12);
        fault(s, "", 0);
        fault(s, ";", 0);
        fault(s, ";x", 0);
        fault(s, "x;", 2);
        fault(s, "x;;x", 2);
        fault(s, "xx", 1);
        fault(s, "x,x", 1);
        fault(s, "g1g1", 2);
        fault(s, "o0o1", 2);
        fault(s, "x;x;x;x;x;x;x;x;x;x;x;x;", 23);
        fault(s, "x;x;x;x;x;x;x;x;x;x;x;x;x", 23);
        fault(s, "x;x;x;x;x;x;x;x;x;x;x;0:a;x", 25);
        fault(s, "x;x;x;x;x;x;x;x;x;x;x;xx", 23);
    }

    private static void becomesSum(Sentences s) {
        s.sentence("DIGIT : SUM (ELEMENT DIGIT becomes that sum);");
        for (int element = 0; element <= 5; element++) {
            s.test("ELEMENT " + element, "read \"" + element + ":a\" = 1\nof(" + element + ", 1) = 1\n");
        }
        s.test("what it was before is gone", """
            read "0:1+2a+abc;0:b" = 2
            of(0, *) = 0 0 1 0 0 0 0 0
            """);
        done(s, "6:a", 0);
        done(s, "9:a", 0);
        fault(s, "0", 1);
        fault(s, "0;", 1);
        fault(s, "00:a", 1);
        fault(s, "0a", 1);
        fault(s, "0-a", 1);
        fault(s, ":a", 0);
    }

    private static void generators(Sentences s) {
        s.sentence("g DIGIT (that ELEMENT comes to GENERATORS, as generate());");
        s.test("ELEMENTS 0 and 5", """
            read "0:a;5:b;g5;g0" = 4
            generator(0, *) = 0 0 1 0 0 0 0 0
            generator(1, *) = 0 1 0 0 0 0 0 0
            """);
        s.test("four, and no fifth", """
            read "g0;g1;g2;g3" = 4
            read "g4" = 0
            told(3) = 4
            """);
        done(s, "g0;g0;g0;g0;g0;g0", 4);
        done(s, "g6", 0);
        done(s, "g9", 0);
        fault(s, "g", 1);
        fault(s, "g;", 1);
        fault(s, "gg", 1);
        fault(s, "ga", 1);
        fault(s, "g-1", 1);
        fault(s, "g00", 2);
        s.sentence("x (there are no GENERATORS any more);");
        s.test("of four, and of none", """
            read "0:a;g0;g0;g0;g0" = 5
            read "x" = 1
            told(3) = 0
            rank(0) = 0
            of(0, 1) = 1
            read "x" = 1
            told(3) = 0
            """);
        done(s, "g0;g0;g0;g0;x;g0", 6);
        fault(s, "x0", 1);
        fault(s, "X", 0);
    }

    private static void lettersPrimeOrder(Sentences s) {
        String cleared = """
            of(0, *) = 0 0 0 0
            told(3) = 0
            """;
        s.sentence("n DIGIT (as letters());");
        for (int n = 2; n <= 4; n++) {
            s.test("n" + n, SOME + "read \"n" + n + "\" = 1\ntold(0) = " + n + "\n" + cleared);
        }
        for (String n : new String[] {"n0", "n1", "n5", "n9"}) {
            s.test(n + " is not done", SOME + "read \"" + n + "\" = 0\n" + """
                told(*) = 3 5 1 1 8
                of(0, 1) = 2
                """);
        }
        fault(s, "n", 1);
        fault(s, "n-2", 1);
        fault(s, "n03", 2);
        s.sentence("p DIGIT (as prime());");
        for (int p : new int[] {2, 3, 5, 7}) {
            s.test("p" + p, SOME + "read \"p" + p + "\" = 1\ntold(1) = " + p + "\n" + cleared);
        }
        for (String p : new String[] {"p0", "p1", "p4", "p6", "p8", "p9"}) {
            s.test(p + " is not done", SOME + "read \"" + p + "\" = 0\n" + """
                told(*) = 3 5 1 1 8
                of(0, 1) = 2
                """);
        }
        fault(s, "p", 1);
        fault(s, "p11", 2);
        s.sentence("o DIGIT (ORDER).");
        s.test("o0, o1", """
            read "o1" = 1
            told(2) = 1
            read "o0" = 1
            told(2) = 0
            """);
        s.test("o2 and o9 are not done", """
            read "o1;o2;o9" = 1
            told(2) = 1
            """);
        fault(s, "o", 1);
        fault(s, "o01", 2);
    }

    private static void sums(Sentences s) {
        s.sentence("SUM: perhaps - ahead, TERM, then any number of + TERM or - TERM.");
        sum(s, "a", "0 1 0 0 0 0 0 0 0 0 0 0 0 0 0 0");
        sum(s, "-a", "0 4 0 0 0 0 0 0 0 0 0 0 0 0 0 0");
        sum(s, "a-b", "0 1 4 0 0 0 0 0 0 0 0 0 0 0 0 0");
        sum(s, "-a+b", "0 4 1 0 0 0 0 0 0 0 0 0 0 0 0 0");
        sum(s, "2a+3a", "0 0 0 0 0 0 0 0 0 0 0 0 0 0 0 0");
        sum(s, "-4a-4a", "0 2 0 0 0 0 0 0 0 0 0 0 0 0 0 0");
        s.test("49 terms", "read \"0:" + "1-".repeat(48) + "1\" = 1\nof(0, 0) = 3\n");
        fault(s, "0:", 2);
        fault(s, "0:;", 2);
        fault(s, "0:-", 3);
        fault(s, "0:-;", 3);
        fault(s, "0:+a", 2);
        fault(s, "0:--a", 3);
        fault(s, "0:-+a", 3);
        fault(s, "0:a+", 4);
        fault(s, "0:a-", 4);
        fault(s, "0:a+;", 4);
        fault(s, "0:a+-b", 4);
        fault(s, "0:a++b", 4);
        fault(s, "0:a*b", 3);
    }

    private static void terms(Sentences s) {
        s.sentence("TERM: NUMBER (1 or 2 digits), behind it 0 to 4 of a b c d; or 1 to 4 of these (NUMBER 1).");
        sum(s, "0", "0 0 0 0 0 0 0 0 0 0 0 0 0 0 0 0");
        sum(s, "9", "4 0 0 0 0 0 0 0 0 0 0 0 0 0 0 0");
        sum(s, "12", "2 0 0 0 0 0 0 0 0 0 0 0 0 0 0 0");
        sum(s, "10", "0 0 0 0 0 0 0 0 0 0 0 0 0 0 0 0");
        sum(s, "20a-1", "4 0 0 0 0 0 0 0 0 0 0 0 0 0 0 0");
        sum(s, "99", "4 0 0 0 0 0 0 0 0 0 0 0 0 0 0 0");
        sum(s, "3abcd", "0 0 0 0 0 0 0 0 0 0 0 0 0 0 0 3");
        sum(s, "13abcd", "0 0 0 0 0 0 0 0 0 0 0 0 0 0 0 3");
        sum(s, "abcd", "0 0 0 0 0 0 0 0 0 0 0 0 0 0 0 1");
        sum(s, "d", "0 0 0 0 0 0 0 0 1 0 0 0 0 0 0 0");
        s.test("10 and 30 modulo 7", """
            read "p7;0:10-30b" = 2
            of(0, *) = 3 0 5 0 0 0 0 0
            """);
        s.test("99 modulo 7", """
            read "p7;0:99c-98" = 2
            of(0, *) = 0 0 0 0 1 0 0 0
            """);
        fault(s, "0:123", 4);
        fault(s, "0:123a", 4);
        fault(s, "0:a1", 3);
        fault(s, "0:1a1", 4);
        fault(s, "0:12a3", 5);
        fault(s, "0:abcda", 6);
        fault(s, "0:1abcda", 7);
        fault(s, "0:12abcda", 8);
        fault(s, "0:aaaaa", 6);
        fault(s, "0:a+abcda", 8);
    }

    private static void letters(Sentences s) {
        s.sentence("a is LETTER 0, b 1, c 2, d 3; several are multiplied as they stand, from the left.");
        s.test("each by itself", """
            read "n4;0:a;1:b;2:c;3:d" = 5
            lead(*) = 1 2 4 8
            """);
        sum(s, "ab", "0 0 0 1 0 0 0 0 0 0 0 0 0 0 0 0");
        sum(s, "ba", "0 0 0 4 0 0 0 0 0 0 0 0 0 0 0 0");
        sum(s, "cab", "0 0 0 0 0 0 0 1 0 0 0 0 0 0 0 0");
        sum(s, "cba", "0 0 0 0 0 0 0 4 0 0 0 0 0 0 0 0");
        sum(s, "dcba", "0 0 0 0 0 0 0 0 0 0 0 0 0 0 0 1");
        sum(s, "-2bcda", "0 0 0 0 0 0 0 0 0 0 0 0 0 0 0 2");
        sum(s, "aa", "0 0 0 0 0 0 0 0 0 0 0 0 0 0 0 0");
        sum(s, "abca", "0 0 0 0 0 0 0 0 0 0 0 0 0 0 0 0");
        sum(s, "dddd+1", "1 0 0 0 0 0 0 0 0 0 0 0 0 0 0 0");
        fault(s, "0:e", 2);
        fault(s, "0:A", 2);
        fault(s, "0:ae", 3);
    }

    private static void blanks(Sentences s) {
        s.sentence("Nothing else stands between (no blanks).");
        fault(s, " x", 0);
        fault(s, "x ", 1);
        fault(s, "x; x", 2);
        fault(s, "g 0", 1);
        fault(s, "0 :a", 1);
        fault(s, "0: a", 2);
        fault(s, "0:a +b", 3);
        fault(s, "0:2 a", 3);
        s.test("a byte 0 is nothing that stands there", """
            feed(120) = 1
            feed(0) = 2
            read() = -11
            """);
    }

    private static void faults(Sentences s) {
        s.sentence("The FAULT: the place of the first byte with which none begins so (the end of THE TEXT, if it ends too"
            + " early).");
        fault(s, "z", 0);
        fault(s, "-", 0);
        fault(s, "a", 0);
        fault(s, "0:a-;x", 4);
        fault(s, "x;0:2a;z", 7);
        fault(s, "o0;0:b;1:", 9);
        fault(s, "x;x;x;x;x;x;x;x;x;x;x;0:", 24);
        fault(s, "o0;x;p7;n2;0:a;o0;1:12+", 23);
    }

    private static void done(Sentences s) {
        s.sentence("Without it they are done, one behind the other;");
        s.test("each finds what those ahead of it left", """
            read "0:a;g0;0:b;g0;p7;0:6c;g0;o1;n2;1:3a;g1;o1" = 12
            told(*) = 2 7 1 1 4
            generator(0, *) = 0 3 0 0
            of(0, *) = 0 0 0 0
            """);
        s.test("a letter is there from n4 on", """
            read "0:d;n4;0:d;n3;1:d" = 3
            of(0, *) = 0 0 0 0 0 0 0 0
            """);
        s.test("modulo the prime of then", """
            read "p7;0:6;p3;1:5" = 4
            of(0, 0) = 0
            of(1, 0) = 2
            """);
        s.sentence("those that would be refused aren't (one with a LETTER that there isn't, or an ELEMENT, too).");
        s.test("all that are refused, with three letters", SOME + """
            read "0:b+d;6:a;g6;n5;p4;o2;7:d;g9;n1;p9;o9;0:0d" = 0
            told(*) = 3 5 1 1 8
            of(0, *) = 0 2 0 0 0 0 0 0
            """);
        s.test("those beside them are done", """
            read "0:a;0:d;1:b;n1;g0;g7;g1" = 4
            told(*) = 3 5 0 2 8
            of(0, *) = 0 1 0 0 0 0 0 0
            """);
        s.test("c is not there with two letters", """
            read "n2;0:a;0:c;0:ab+b-ca" = 2
            of(0, *) = 0 1 0 0
            """);
        s.test("the fifth generator", """
            read "0:a;g0;g0;g0;g0;1:b;g1" = 6
            rank(0) = 4
            """);
    }

    private static void inDoubt(Sentences s) {
        s.sentence("A set-up with a DIGIT that is no ELEMENT, or a LETTER that there is not, also where its number is 0, is in"
            + " form and not done;");
        done(s, "6:1", 0);
        done(s, "9:0", 0);
        done(s, "g6;g7;g8;g9", 0);
        done(s, "0:0d", 0);
        done(s, "0:00d", 0);
        done(s, "0:a+0d-0", 0);
        done(s, "0:aad", 0);
        done(s, "0:dd", 0);
        done(s, "6:d", 0);
        s.test("the element stays", """
            read "0:a" = 1
            read "0:b+0d" = 0
            of(0, *) = 0 1 0 0 0 0 0 0
            """);
        s.sentence("NUMBERS may have a 0 ahead;");
        sum(s, "07", "2 0 0 0 0 0 0 0 0 0 0 0 0 0 0 0");
        sum(s, "00", "0 0 0 0 0 0 0 0 0 0 0 0 0 0 0 0");
        sum(s, "-01ab", "0 0 0 4 0 0 0 0 0 0 0 0 0 0 0 0");
        fault(s, "0:001", 4);
        s.sentence("a fifth letter and a thirteenth CLAUSE (its ;) are FAULTS at their places,");
        fault(s, "0:dcbaa", 6);
        fault(s, "0:9abcdd", 7);
        fault(s, "0:99abcdd", 8);
        fault(s, "g0;g0;g0;g0;g0;g0;g0;g0;g0;g0;g0;g0;g0", 35);
        fault(s, "x;x;x;x;x;x;x;x;x;x;x;0:a+b;", 27);
        s.sentence("and an empty THE TEXT has its FAULT at 0.");
        s.test("at first, and behind a set-up", """
            read() = -10
            read "x" = 1
            read() = -10
            read "z" = -10
            read() = -10
            """);
    }
}
