/** "Terms", part 2: annihilators, series, means, steps, fits, odds, events, books, the image. */
final class TermsTwoBounds {
    private static final String SIDED = "read \"n4;0:a+bc;g0;1:bcd-ad;2:ad+bcd;3:bcd\" = 6\n";
    private static final int[] PRIMES = {2, 3, 5, 7};

    private TermsTwoBounds() {
    }

    static void all(Sentences s) {
        s.section("Terms 2");
        asked(s);
        annihilator(s);
        again(s);
        count(s);
        series(s);
        mean(s);
        stepNought(s);
        stepOne(s);
        stepTwo(s);
        fits(s);
        odds(s);
        events(s);
        after(s);
        book(s);
        image(s);
    }

    private static void asked(Sentences s) {
        s.sentence("All that follows is asked, and changes nothing.");
        s.unchanged(Sentences.THINGS, "annihilator(2, 1, 0) = 2", "annihilator(0, 0, 1) = 6", "annihilator(0, 0, 2) = 1",
            "annihilator(1, 0, 3) = 3", "annihilates(0, 1, 0, *) = 0 0 0 1 0 0 0 0", "count(0, *) = 0 2 3 1 NONE",
            "series(0, 1, 1) = float 2", "mean(2) = double 11/6", "step(0) = 2", "step(1) = 3", "step(2) = 4",
            "fits(0, 5, 7, 0) = 5", "fits(0, 1, 1, 1) = -5", "odds(0, 1) = 25", "after(0, 0) = 2", "after(1, 1) = 5",
            "after(2, 2) = 3", "looked() = 2");
    }

    private static void annihilator(Sentences s) {
        s.sentence("ANNIHILATOR of THE IDEAL of a SIDE by a HAND: 0: all ELEMENTS x with x g all 0 for each g of THE IDEAL; 1:"
            + " all with g x all 0.");
        s.test("the hands differ: (a + bc) x is 0 for a - bc, x (a + bc) for none that begins with a", SIDED + """
            annihilator(0, 0, 0) = 7
            annihilator(0, 1, 0) = 8
            annihilates(0, 1, 0, *) = 0 1 0 0 0 0 4 0 0 0 0 0 0 0 0 0
            annihilates(0, 0, 0, *) = 0 0 0 1 0 0 0 0 0 0 0 0 0 0 0 0
            """);
        s.test("for each g of the ideal, of the right one likewise", SIDED + """
            annihilator(1, 0, 0) = 8
            annihilator(1, 1, 0) = 7
            annihilator(2, 0, 0) = 7
            annihilator(2, 1, 0) = 7
            """);
        s.test("of all that there is: the element that is all 0 alone", """
            read "0:1;g0" = 2
            annihilator(0, 0, 0) = 0
            annihilator(2, 1, 0) = 0
            annihilator(0, 0, 3) = -5
            annihilates(0, 0, 0, 0) = NONE
            """);
        s.test("of the least ideal: all but ONE", """
            read "n4;0:abcd;g0" = 3
            annihilator(0, 0, 0) = 15
            annihilator(1, 1, 0) = 15
            """);
        s.sentence("Its RANK, its BASIS as above.");
        s.test("1 at leads, 0 at those of the others, by number", """
            read "0:ab+2c;g0" = 2
            annihilator(0, 0, 0) = 4
            annihilator(0, 0, 3) = 3
            annihilates(0, 0, 0, *) = 0 0 0 1 3 0 0 0
            annihilates(0, 0, 1, *) = 0 0 0 0 0 1 0 0
            annihilates(0, 0, 2, *) = 0 0 0 0 0 0 1 0
            annihilates(0, 0, 3, *) = 0 0 0 0 0 0 0 1
            annihilates(0, 0, 4, 0) = NONE
            """);
        s.test("by degree", """
            read "o1;0:ab+2c;g0" = 3
            annihilator(0, 0, 3) = 4
            annihilates(0, 0, 0, *) = 0 0 0 2 1 0 0 0
            """);
    }

    private static void again(Sentences s) {
        s.sentence("AGAIN: the ANNIHILATOR by the other HAND of that ANNIHILATOR: its RANK; whether all of THE IDEAL lies in"
            + " it.");
        s.test("an ideal comes back, or a greater one", SIDED + """
            annihilator(0, 0, 1) = 9
            annihilator(0, 1, 1) = 8
            annihilator(1, 0, 1) = 8
            annihilator(1, 1, 1) = 9
            annihilator(2, 0, 1) = 9
            annihilator(0, 0, 2) = 1
            annihilator(0, 1, 2) = 1
            annihilator(1, 0, 2) = 1
            annihilator(2, 1, 2) = 1
            """);
        s.test("nothing comes back, and lies in it", """
            annihilator(0, 0, 1) = 0
            annihilator(0, 0, 2) = 1
            annihilator(1, 1, 1) = 0
            annihilator(1, 1, 2) = 1
            """);
        s.test("all comes back, and lies in it", """
            read "n4;0:3;g0" = 3
            annihilator(0, 0, 1) = 16
            annihilator(0, 0, 2) = 1
            annihilator(2, 1, 1) = 16
            annihilator(2, 1, 2) = 1
            """);
    }

    private static void count(Sentences s) {
        s.sentence("COUNT of a SIDE and d: how many of BASIS have a LEAD of DEGREE d.");
        s.test("of nothing", "count(0, *) = 0 0 0 0 NONE");
        s.test("of all", """
            read "n4;0:1;g0" = 3
            count(*, 0) = 1 1 1
            count(*, 4) = 1 1 1
            count(2, *) = 1 4 6 4 1 NONE
            """);
        s.test("by LEADS, which hang on ORDER", """
            read "0:ab+2c;g0" = 2
            count(0, *) = 0 0 3 1
            order(1) = 0
            count(0, *) = 0 1 2 1
            """);
        s.test("of a SIDE", SIDED + """
            count(0, *) = 0 1 3 3 1
            count(2, *) = 0 1 3 4 1
            """);
    }

    private static void seriesOf(Sentences s, String edge, String rows, int num, int den, int... free) {
        float x = (float) num / (float) den;
        float sum = 0.0f;
        for (int d = free.length - 1; d >= 0; d--) {
            sum = sum * x + (float) free[d];
        }
        s.test(edge + ", at " + num + " by " + den, rows + "series(0, " + num + ", " + den + ") = "
            + Float.floatToIntBits(sum) + "\n");
    }

    private static void series(Sentences s) {
        s.sentence("SERIES of a SIDE at num by den: x is (float) num / (float) den; s is 0.0f; for d from n down to 0: s"
            + " becomes s * x + (float) (how many PLACES have DEGREE d, less COUNT of d); s is told by its bits"
            + " (Float.floatToIntBits).");
        s.test("nothing is left: 0.0f", """
            read "0:1;g0" = 2
            series(0, 1, 99) = 0
            series(1, 99, 1) = 0
            """);
        s.test("all is left: (1 + x) to the power of n", """
            series(0, 1, 1) = float 8
            series(0, 99, 99) = float 8
            series(2, 99, 1) = float 1000000
            series(2, 1, 2) = float 3.375
            """);
        s.test("place 0 alone is left: 1.0f", """
            read "0:a;1:b;2:c;g0;g1;g2" = 6
            series(0, 1, 99) = float 1
            series(1, 99, 1) = float 1
            """);
        for (int[] at : new int[][] {{1, 99}, {99, 1}, {99, 98}, {1, 3}, {2, 3}, {10, 7}, {49, 50}}) {
            seriesOf(s, "four letters", "letters(4) = 3\n", at[0], at[1], 1, 4, 6, 4, 1);
            seriesOf(s, "two letters", "letters(2) = 3\n", at[0], at[1], 1, 2, 1);
            seriesOf(s, "less the leads", SIDED, at[0], at[1], 1, 3, 3, 1, 0);
            seriesOf(s, "by degree", "read \"o1;0:ab+2c;g0\" = 3\n", at[0], at[1], 1, 2, 1, 0);
        }
    }

    private static void mean(Sentences s) {
        s.sentence("MEAN of a SIDE, a double: (double) DEGREES of all LEADS, together, by (double) RANK (0.0, if that is 0), by"
            + " its bits (Double.doubleToLongBits).");
        s.test("RANK 0", "mean(*) = 0 0 0 NO");
        s.test("1.0: two letters, all", """
            read "n2;0:1;g0" = 3
            mean(*) = 4607182418800017408 4607182418800017408 4607182418800017408
            """);
        s.test("a single lead of degree 4", """
            read "n4;0:abcd;g0" = 3
            mean(0) = double 4
            """);
        s.test("a fraction without an end", """
            read "n2;0:a;1:b;g0;g1" = 5
            mean(0) = double 4/3
            """);
        s.test("by LEADS, which hang on ORDER", """
            read "0:ab+2c;g0" = 2
            mean(0) = double 9/4
            order(1) = 0
            mean(0) = double 8/4
            """);
        s.test("of a SIDE", SIDED + """
            mean(0) = double 20/8
            mean(2) = double 23/9
            """);
        s.test("fifteen leads", """
            read "n4;0:a;1:b;2:c;3:d;g0;g1;g2;g3" = 9
            mean(1) = double 32/15
            """);
    }

    private static void stepNought(Sentences s) {
        s.sentence("STEPS of the LEFT IDEAL: M is it; STEP 0: RANK of M less RANK of all sums of LETTERS times elements of M"
            + " (from the left).");
        s.test("of nothing, and of a generator that is all 0", """
            step(0) = 0
            generate(0) = 1
            step(0) = 0
            """);
        s.test("of all, asked again", """
            read "0:1;g0" = 2
            step(*) = 1 0 0
            step(*) = 1 0 0
            """);
        s.test("of less than there was", """
            read "0:1;g0" = 2
            rank(0) = 8
            step(*) = 1 0 0
            read "x;0:ab;g0" = 3
            step(*) = 1 2 3
            step(*) = 1 2 3
            """);
        s.test("generators that the others tell do not count", """
            read "0:a;1:ab+a;2:3a;g0;g1;g2" = 6
            step(0) = 1
            """);
        s.test("of all", """
            read "n4;0:1;1:a;2:2+d;g0;g1;g2" = 7
            step(0) = 1
            """);
        s.test("four", """
            read "n4;0:a;1:b;2:c;3:d;g0;g1;g2;g3" = 9
            step(0) = 4
            """);
        s.test("from the left: d (a + bc) is told by a + bc, (a + bc) d is not", SIDED + """
            step(0) = 1
            generate(1) = 2
            step(0) = 1
            generate(2) = 3
            step(0) = 2
            """);
    }

    private static void steps(Sentences s, String text, String... dues) {
        StringBuilder rows = new StringBuilder("read \"" + text + "\"\n");
        for (int k = 0; k < dues.length; k++) {
            rows.append("step(").append(k).append(") = ").append(dues[k]).append('\n');
        }
        s.test("of " + text, rows.toString());
    }

    private static void stepOne(Sentences s) {
        s.sentence("STEP 1: let g0, g1, .. be as many ELEMENTS of M as STEP 0 tells, by which, with those sums, all of M is"
            + " told; M becomes all rows x0, x1, .. of ELEMENTS with x0 g0, x1 g1, .. all 0 together; then likewise (LETTERS"
            + " times rows: each ELEMENT of the row times that LETTER, from the left; RANK: how many rows tell all of M in"
            + " just one way).");
        steps(s, "g0;g1", "0", "0");
        for (int p : PRIMES) {
            String start = "p" + p + ";";
            steps(s, start + "0:1+a;g0", "1", "0");
            steps(s, start + "0:a+bc;g0", "1", "1");
            steps(s, start + "0:ab;1:ac;g0;g1", "2", "5");
            steps(s, start + "n4;0:ab+cd;g0", "1", "5");
            steps(s, start + "n4;0:abcd;g0", "1", "4");
            steps(s, start + "n4;0:a;1:b;2:c;3:d;g0;g1;g2;g3", "4", "10");
            steps(s, start + "n4;0:abc;1:abd;2:acd;3:bcd;g0;g1;g2;g3", "4", "15");
            steps(s, start + "n4;0:ab;1:ac;2:bc;3:abd;g0;g1;g2;g3", "3", "8");
        }
        steps(s, "n4;0:a+bc;1:ad+bcd;g0;g1", "2", "5");
    }

    private static void stepTwo(Sentences s) {
        s.sentence("STEP 2 (n 2, 3 alone) likewise from the M of STEP 1, rows in place of ELEMENTS.");
        steps(s, "g0;g1", "0", "0", "0");
        for (int p : PRIMES) {
            String start = "p" + p + ";";
            steps(s, start + "0:2;g0;n2;0:1;g0", "1", "0", "0");
            steps(s, start + "n2;0:a;g0", "1", "1", "1");
            steps(s, start + "n2;0:ab;g0", "1", "2", "3");
            steps(s, start + "n2;0:a;1:b;g0;g1", "2", "3", "4");
            steps(s, start + "0:a;1:b;2:c;g0;g1;g2", "3", "6", "10");
            steps(s, start + "0:abc;g0", "1", "3", "6");
            steps(s, start + "0:ab;1:ac;2:bc;g0;g1;g2", "3", "8", "15");
            steps(s, start + "0:ab;1:ac;2:bc;3:abc+ab;g0;g1;g2;g3", "3", "8", "15");
            steps(s, start + "0:a;1:bc;g0;g1", "2", "4", "7");
        }
        s.test("not with four letters", """
            letters(4) = 3
            step(2) = STATE
            step(1) = 0
            letters(3) = 4
            step(2) = 0
            """);
        s.sentence("(How many there are does not hang on which are taken.)");
        steps(s, "0:ab;1:ac;2:bc;g2;g1;g0", "3", "8", "15");
        steps(s, "0:ab+ac;1:ac+bc+abc;2:bc;g2;g0;g1", "3", "8", "15");
        steps(s, "0:a;1:bc+ac;2:ab+a;3:bc;g1;g3;g2;g0", "2", "4", "7");
        steps(s, "0:b+a;1:a;2:b;g0;g1;g2", "2", "3", "4");
    }

    private static void fits(Sentences s) {
        s.sentence("FITS of an ELEMENT, a PLACE, a SIDE: how many numbers 0 .. p - 1 there are by which, were it its own there,"
            + " it would lie WITHIN; the least (-5: none).");
        s.test("none", """
            read "0:a;g0;1:b" = 3
            fits(0, 1, 0, 0) = 0
            fits(0, 1, 0, 1) = -5
            """);
        s.test("0 alone", """
            read "0:a;g0;1:2b" = 3
            fits(0, 1, 2, 0) = 1
            fits(0, 1, 2, 1) = 0
            """);
        s.test("the greatest number alone", """
            read "p7;0:a+6b;g0;1:a" = 4
            fits(0, 1, 2, 0) = 1
            fits(0, 1, 2, 1) = 6
            """);
        for (int p : PRIMES) {
            s.test("all " + p + " of them", "read \"p" + p + ";0:a;g0;1:a+ab+abc\" = 4\n"
                + "fits(0, 1, 1, 0) = " + p + "\n"
                + "fits(1, 1, 7, 0) = " + p + "\n"
                + "fits(2, 1, 7, 1) = 0\n");
        }
        s.test("its own number does not matter, and stays", """
            read "0:a;g0;1:3c" = 3
            fits(0, 1, 4, 0) = 1
            of(1, 4) = 3
            within(0, 1) = 0
            """);
        s.test("of a SIDE", SIDED + """
            fits(0, 3, 9, 1) = 4
            fits(1, 3, 9, 1) = 1
            fits(2, 3, 9, 1) = 0
            fits(2, 3, 9, 0) = 5
            """);
    }

    private static void odds(Sentences s) {
        s.sentence("ODDS of a SIDE: all ELEMENTS that there could be being alike likely, how likely one lies WITHIN: a fraction"
            + " in lowest terms.");
        s.test("surely", """
            read "n4;p7;0:1;g0" = 4
            odds(0, *) = 1 1 NO
            """);
        s.test("one by the most that there could be", """
            read "n4;p7" = 2
            odds(0, *) = 1 33232930569601
            """);
        s.test("one by the fewest that there could be, but for the ideal that is all", """
            read "n2;p2" = 2
            odds(2, *) = 1 16
            """);
        s.test("in lowest terms", """
            read "p3;0:a;g0" = 3
            odds(0, *) = 1 81
            """);
        s.test("of a SIDE", SIDED + """
            odds(0, *) = 1 390625
            odds(1, *) = 1 390625
            odds(2, *) = 1 78125
            """);
    }

    private static void events(Sentences s) {
        s.sentence("EVENTS told by hand: what happens (0 ELEMENT n comes to GENERATORS, if there is room;");
        s.test("there is room for a fourth, and for no fifth", """
            read "0:a;1:b;2:c;g0;g0;g0" = 6
            event(0, 1) = 1
            after(0, 2) = 4
            after(0, 0) = 6
            event(0, 2) = 2
            after(0, 2) = 4
            after(0, 0) = 6
            """);
        s.test("room that an event made", """
            read "0:a;1:b;g0;g0;g0;g0" = 6
            event(4, 3) = 1
            event(0, 1) = 2
            after(0, 2) = 4
            after(0, 0) = 6
            """);
        s.test("the first and the last element", """
            read "0:a;5:c" = 2
            event(0, 5) = 1
            after(0, 1) = 4
            event(0, 0) = 2
            after(0, 1) = 1
            """);
        s.sentence("1 each GENERATOR becomes LETTER n times it, if there is that LETTER by then;");
        s.test("each, from the left", """
            read "n4;0:a+bc;1:ad+bcd;2:b;g0;g2" = 6
            event(1, 3) = 1
            after(0, 1) = 9
            after(0, 2) = 2
            after(0, 0) = 6
            """);
        s.test("from the left: d (a + bc) does not tell (a + bc) d", """
            read "n4;0:a+bc;1:ad+bcd;g0" = 4
            event(1, 3) = 1
            event(0, 1) = 2
            after(0, 0) = 5
            """);
        s.test("LETTER n - 1 is there, LETTER n is not", """
            read "0:1;g0" = 2
            event(1, 3) = 1
            after(0, 0) = 8
            event(1, 2) = 2
            after(0, 0) = 4
            after(0, 1) = 4
            """);
        s.test("a LETTER that is not there leaves all four as they are", """
            read "0:1;g0;g0;g0;g0" = 5
            event(1, 3) = 1
            after(0, *) = 8 0 4
            read "n2;0:1;g0;g0;g0;g0" = 6
            event(1, 2) = 2
            after(0, *) = 4 0 4
            """);
        s.test("nothing at place 0 is left, though it was all", """
            read "0:1;g0" = 2
            rank(0) = 8
            event(1, 0) = 1
            after(0, *) = 4 1 1
            after(0, *) = 4 1 1
            """);
        s.test("by then: letters that came, letters that went", """
            event(1, 3) = 1
            read "n4;0:1;g0" = 3
            after(0, 1) = 8
            read "n2;0:1;g0" = 3
            after(0, 1) = 0
            """);
        s.test("without generators nothing becomes otherwise", """
            event(1, 0) = 1
            after(0, *) = 0 -5 0
            """);
        s.sentence("2 each becomes it times LETTER n, likewise;");
        s.test("from the right: (a + bc) d is told once", """
            read "n4;0:a+bc;1:ad+bcd;g0" = 4
            event(2, 3) = 1
            event(0, 1) = 2
            after(0, 0) = 4
            """);
        s.test("LETTER n - 1 is there, LETTER n is not", """
            read "n2;0:1;g0" = 3
            event(2, 2) = 1
            after(0, 0) = 4
            event(2, 1) = 2
            after(0, 0) = 2
            after(0, 1) = 2
            """);
        s.test("a LETTER that is not there leaves all four as they are", """
            read "0:1;g0;g0;g0;g0" = 5
            event(2, 3) = 1
            after(0, *) = 8 0 4
            read "n2;0:1;g0;g0;g0;g0" = 6
            event(2, 2) = 2
            after(0, *) = 4 0 4
            """);
        s.test("each of four", """
            read "0:1;1:a;2:b;3:c;g0;g1;g2;g3" = 8
            event(2, 0) = 1
            after(0, *) = 4 1 4
            event(4, 0) = 2
            after(0, *) = 3 3 3
            """);
        s.sentence("3 ORDER becomes of KIND n;");
        s.test("by degree, and by number again", """
            read "0:ab+2c;g0" = 2
            event(3, 1) = 1
            after(0, 1) = 4
            event(3, 0) = 2
            after(0, 1) = 3
            told(2) = 0
            """);
        s.test("without it ORDER is as it is now", """
            read "0:ab+2c;g0" = 2
            after(0, 1) = 3
            order(1) = 0
            after(0, 1) = 4
            event(3, 0) = 1
            after(0, 1) = 3
            event(-1, 0) = 0
            after(0, 1) = 4
            """);
        s.sentence("4 GENERATOR n goes, those behind it are one number less, if there is that one by then;");
        s.test("the first, the last", """
            read "n4;0:a;1:b;2:c;3:d;g0;g1;g2;g3" = 9
            event(4, 3) = 1
            after(0, *) = 14 1 3
            event(4, 0) = 2
            after(0, *) = 12 2 2
            """);
        s.test("those behind it are one number less", """
            read "n4;0:a;1:b;2:c;3:d;g0;g1;g2;g3" = 9
            event(4, 1) = 1
            event(4, 1) = 2
            after(0, *) = 12 1 2
            event(4, 0) = 3
            after(0, *) = 8 8 1
            """);
        s.test("one that is not there, or gone by then", """
            read "0:a;g0" = 2
            event(4, 1) = 1
            after(0, *) = 4 1 1
            event(4, 0) = 2
            event(4, 0) = 3
            after(0, *) = 0 -5 0
            """);
        s.test("one that came by then", """
            read "0:a" = 1
            event(0, 0) = 1
            event(4, 0) = 2
            after(0, *) = 0 -5 0
            """);
        s.sentence("8 rows at most):");
        s.test("eight, all of which happen", """
            read "0:a;1:b" = 2
            event(0, 0) = 1
            6 times event(3, 1)
            event(0, 1) = 8
            after(0, *) = 6 1 2
            event(3, 1) = FULL
            counted(0) = 8
            """);
    }

    private static void after(Sentences s) {
        s.sentence("AFTER, behind all of it, by a SIDE: RANK; the first LEAD (-5: RANK 0); how many GENERATORS.");
        s.test("nothing happens", """
            read "0:b;g0;g1" = 3
            after(0, *) = 4 2 2 NONE
            """);
        s.test("RANK 0", """
            read "0:a;g0" = 2
            event(1, 0) = 1
            after(0, *) = 0 -5 1
            """);
        s.test("by a SIDE", SIDED + """
            after(*, 0) = 8 8 9 NONE
            event(0, 3) = 1
            after(*, 0) = 9 9 9
            """);
    }

    private static void book(Sentences s) {
        s.sentence("A BOOK told by hand: a SPOT (100 times the number of an ELEMENT, and a PLACE, together), a number (8 rows at"
            + " most):");
        s.test("the first and the last spot", """
            book(0, 0) = 1
            book(507, 0) = 2
            book(508, 0) = NONE
            book(600, 0) = NONE
            letters(4) = 3
            book(515, 0) = 3
            book(516, 0) = NONE
            """);
        s.test("eight rows", """
            8 times book(507, 0)
            looked() = -5
            book(0, 0) = FULL
            counted(1) = 8
            """);
        s.sentence("LOOKED at: the number (from 0) of the first of these rows whose PLACE isn't there, or where it is otherwise"
            + " now (-5: none).");
        s.test("no rows", "looked() = -5");
        s.test("the first row, the eighth row", """
            7 times book(0, 0)
            book(507, 1) = 8
            looked() = 7
            set(0, 0, 4) = 0
            looked() = 0
            """);
        s.test("none any more", """
            book(507, 3) = 1
            looked() = 0
            set(5, 7, 3) = 0
            looked() = -5
            """);
        s.test("a place that isn't there, though all is 0", """
            book(3, 0) = 1
            book(4, 0) = 2
            letters(2) = 3
            looked() = 1
            letters(4) = 2
            looked() = -5
            """);
    }

    private static void image(Sentences s) {
        s.sentence("THE IMAGE: n, p, ORDER, ELEMENTS, GENERATORS, EVENTS, the BOOK.");
        s.test("each of them comes back", """
            read "n4;p7;o1;0:6abcd+d;5:a;g0;g5" = 7
            event(0, 5) = 1
            event(4, 0) = 2
            book(15, 6) = 1
            book(501, 1) = 2
            image() = 2
            letters(2) = 4
            prime(3) = 7
            order(0) = 1
            event(-1, 0) = 0
            event(3, 0) = 1
            book(-1, 0) = 0
            set(0, 3, 1) = 0
            undo() = 2
            told(*) = 4 7 1 2 16
            of(0, *) = 0 0 0 0 0 0 0 0 1 0 0 0 0 0 0 6
            of(5, *) = 0 1 0 0 0 0 0 0 0 0 0 0 0 0 0 0
            generator(0, *) = 0 0 0 0 0 0 0 0 1 0 0 0 0 0 0 6
            generator(1, *) = 0 1 0 0 0 0 0 0 0 0 0 0 0 0 0 0
            counted(0) = 2
            after(0, *) = 8 1 2
            counted(1) = 2
            looked() = -5
            rank(0) = 12
            """);
        s.test("spots and numbers of the BOOK, each of them", """
            book(0, 1) = 1
            book(507, 0) = 2
            image() = 0
            book(-1, 0) = 0
            book(101, 2) = 1
            book(203, 3) = 2
            undo() = 0
            counted(1) = 2
            looked() = 0
            set(0, 0, 1) = 0
            looked() = -5
            set(5, 7, 1) = 0
            looked() = 1
            """);
        s.test("nothing else does: the text, the tapes", """
            feed(120) = 1
            tape(0, 3, 1) = 1
            image() = 0
            feed(59) = 2
            item(0, 0, 9) = 1
            tape(1, 0, 2) = 1
            undo() = 0
            counted(2) = 2
            peek(0, 0) = 9
            peek(1, 1) = 0
            """);
    }
}
