/** "Terms", part 1, but for the set-up: letters, the prime, places, elements, products, ideals, bases, rests. */
final class TermsOneBounds {
    /** All numbers 1, with four letters. */
    private static final String ALL_ONES = "n4;p3;0:1+a+b+ab+c+ac+bc+abc+d+ad+bd+abd+cd+acd+bcd+abcd";
    /** With four letters a + bc has left multiples that are no right ones, unless the prime is 2. */
    private static final String SIDED = "read \"n4;0:a+bc;g0;1:bcd-ad;2:ad+bcd;3:bcd\" = 6\n";

    private TermsOneBounds() {
    }

    static void all(Sentences s) {
        s.section("Terms 1");
        letters(s);
        prime(s);
        places(s);
        elements(s);
        one(s);
        productOfPlaces(s);
        productOfElements(s);
        turned(s);
        complement(s);
        generators(s);
        ideals(s);
        order(s);
        lead(s);
        basis(s);
        rest(s);
    }

    private static void letters(Sentences s) {
        s.sentence("LETTERS 0 .. n - 1 (n 2 .. 4; 3 at first);");
        s.test("three at first: c is the last one", """
            told(0) = 3
            told(4) = 8
            read "0:c" = 1
            read "0:d" = 0
            """);
        s.test("two are the fewest: b is the last one", """
            letters(2) = 3
            told(0) = 2
            read "0:b" = 1
            read "0:c" = 0
            """);
        s.test("four are the most: d is the last one", """
            letters(4) = 3
            told(0) = 4
            read "0:d" = 1
            """);
        s.refusedFor("BAD", "", "letters(?)", "1", "5", "0", "-1", "MIN", "MAX");
    }

    private static void prime(Sentences s) {
        s.sentence("THE PRIME p (2, 3, 5 or 7; 5 at first).");
        s.test("5 at first: 4 is the greatest number", """
            told(1) = 5
            set(0, 0, 4) = 0
            set(0, 0, 5) = 4
            of(0, 0) = 0
            """);
        s.test("each of the four", """
            prime(2) = 5
            prime(3) = 2
            prime(5) = 3
            prime(7) = 5
            told(1) = 7
            """);
        s.refusedFor("BAD", "", "prime(?)", "0", "1", "4", "6", "8", "9", "11", "13", "-1", "-2", "-3", "-5", "-7", "MIN",
            "MAX");
    }

    private static void places(Sentences s) {
        s.sentence("A PLACE: a set of LETTERS as bits (0 to 2 to the power of n, less 1), of as many DEGREES as it has"
            + " LETTERS.");
        for (int n = 2; n <= 4; n++) {
            int last = (1 << n) - 1;
            s.test("with " + n + " letters 0 and " + last + " are there, what is beyond is not", "letters(" + n + ") = 3\n"
                + "told(4) = " + (last + 1) + "\n"
                + "set(0, 0, 1) = 0\n"
                + "set(0, " + last + ", 1) = 0\n"
                + "of(0, 0) = 1\n"
                + "of(0, " + last + ") = 1\n"
                + "of(0, -1) = NONE\n"
                + "of(0, " + (last + 1) + ") = NONE\n");
        }
        s.test("as bits: acd is 1 + 4 + 8", """
            read "n4;0:acd" = 2
            of(0, *) = 0 0 0 0 0 0 0 0 0 0 0 0 0 1 0 0
            """);
        s.test("degrees from 0 to four", """
            read "n4;0:1;g0" = 3
            count(0, *) = 1 4 6 4 1 NONE
            """);
        s.test("degrees from 0 to two", """
            read "n2;0:1;g0" = 3
            count(0, *) = 1 2 1 NONE
            """);
    }

    private static void elements(Sentences s) {
        s.sentence("An ELEMENT: for each PLACE a number 0 .. p - 1 (all is modulo p).");
        int[] primes = {2, 3, 5, 7};
        int[] least = {0, 1, 2, 5};
        int[] greatest = {1, 1, 2, 1};
        for (int i = 0; i < primes.length; i++) {
            int p = primes[i];
            s.test("modulo " + p, "prime(" + p + ") = 5\n"
                + "set(5, 7, " + (p - 1) + ") = 0\n"
                + "set(5, 7, " + p + ") = " + (p - 1) + "\n"
                + "set(5, 7, -1) = 0\n"
                + "set(5, 7, " + -p + ") = " + (p - 1) + "\n"
                + "set(5, 7, MIN) = 0\n"
                + "set(5, 7, MAX) = " + least[i] + "\n"
                + "of(5, 7) = " + greatest[i] + "\n");
        }
        s.sentence("ELEMENTS 0 .. 5 are kept (all numbers 0 at first).");
        for (int element = 0; element <= 5; element++) {
            s.test("number " + element + " is all 0", "of(" + element + ", *) = 0 0 0 0 0 0 0 0 NONE");
        }
        s.test("each by itself", """
            set(0, 1, 1) = 0
            set(1, 1, 2) = 0
            set(2, 1, 3) = 0
            set(3, 1, 4) = 0
            set(5, 1, 1) = 0
            of(*, 1) = 1 2 3 4 0 1 NONE
            """);
        s.test("none below 0, none beyond 5", """
            of(-1, 0) = NONE
            of(6, 0) = NONE
            """);
    }

    private static void one(Sentences s) {
        s.sentence("ONE: the ELEMENT with 1 at PLACE 0, 0 elsewhere.");
        s.test("it changes nothing as a factor", """
            read "0:1;1:2+3a-bc+4abc" = 2
            of(0, *) = 1 0 0 0 0 0 0 0
            product(2, 0, 1) = 4
            of(2, *) = 2 3 0 0 0 0 4 4
            product(3, 1, 0) = 4
            of(3, *) = 2 3 0 0 0 0 4 4
            """);
        s.test("its ideals are all that there is", """
            read "n4;0:1;g0" = 3
            rank(*) = 16 16 16
            """);
    }

    private static void productOfPlaces(Sentences s) {
        s.sentence("PRODUCT of two PLACES a, b: if they have a LETTER in common, there is none;");
        s.test("one in common, or all", """
            letters(4) = 3
            places(1, 1) = -5
            places(8, 8) = -5
            places(7, 12) = -5
            places(12, 7) = -5
            places(15, 15) = -5
            places(15, 1) = -5
            """);
        s.test("the empty place has none in common, even with itself", """
            places(0, 0) = 2
            places(0, 7) = 702
            places(7, 0) = 702
            """);
        s.test("nothing comes of these in a product of elements", """
            read "0:ab;1:bc+2b" = 2
            product(2, 0, 1) = 0
            of(2, *) = 0 0 0 0 0 0 0 0
            """);
        s.sentence("else the PLACE of the LETTERS of both, with SIGN -1, if the number of pairs of a LETTER of a and a"
            + " LETTER of b, that of a being the greater one, is odd, else 1.");
        s.test("no pair", """
            letters(4) = 3
            places(1, 2) = 302
            places(1, 14) = 1502
            places(7, 8) = 1502
            """);
        s.test("one pair", """
            letters(4) = 3
            places(2, 1) = 300
            places(8, 1) = 900
            places(8, 4) = 1200
            places(5, 2) = 700
            """);
        s.test("two pairs", """
            letters(4) = 3
            places(4, 3) = 702
            places(6, 1) = 702
            places(12, 1) = 1302
            """);
        s.test("three pairs", """
            letters(4) = 3
            places(8, 7) = 1500
            places(14, 1) = 1500
            places(10, 5) = 1500
            """);
        s.test("four pairs", """
            letters(4) = 3
            places(12, 3) = 1502
            """);
    }

    private static void productOfElements(Sentences s) {
        s.sentence("PRODUCT x y of two ELEMENTS: for all PLACES a, b that have one: number of x at a times number of y at b"
            + " times SIGN, at that PLACE, together.");
        s.test("with SIGN: a b and b a", """
            read "0:2a;1:2b" = 2
            product(2, 0, 1) = 1
            of(2, 3) = 4
            product(2, 1, 0) = 1
            of(2, 3) = 1
            """);
        s.test("together they can be 0", """
            read "0:a+b" = 1
            product(1, 0, 0) = 0
            """);
        s.test("together they can be 0 modulo p", """
            read "p2;0:1+a" = 2
            product(1, 0, 0) = 1
            of(1, *) = 1 0 0 0 0 0 0 0
            """);
        s.test("all the greatest numbers, at all places of four letters", """
            read "n4;p7;0:-1-a-b-ab-c-ac-bc-abc-d-ad-bd-abd-cd-acd-bcd-abcd" = 3
            product(1, 0, 0) = 16
            of(1, *) = 1 2 2 2 2 2 2 4 2 2 2 4 2 4 4 4
            """);
        s.test("by an element that is all 0", """
            read "0:1+a+abc" = 1
            product(2, 0, 1) = 0
            product(2, 1, 0) = 0
            """);
        s.test("to the last place, with two letters", """
            read "n2;0:3+a;1:b+ab" = 3
            product(2, 0, 1) = 2
            of(2, *) = 0 0 3 4
            """);
    }

    private static void turned(Sentences s) {
        s.sentence("TURNED of an ELEMENT: at each PLACE of DEGREE d the number times -1, if d (d - 1) by 2 is odd.");
        s.test("degrees 0 and 1 stay, 2 and 3 turn, 4 stays", "read \"" + ALL_ONES + "\" = 3\n" + """
            becomes(1, 0, 0) = 16
            of(1, *) = 1 1 1 2 1 2 2 2 1 2 2 2 2 2 2 1
            """);
        s.test("0 times -1 is 0", """
            read "0:a" = 1
            becomes(0, 0, 0) = 1
            of(0, *) = 0 1 0 0 0 0 0 0
            """);
        s.test("modulo 2 all stays", """
            read "p2;0:a+ab+abc" = 2
            becomes(0, 0, 0) = 3
            of(0, *) = 0 1 0 1 0 0 0 1
            """);
    }

    private static void complement(Sentences s) {
        s.sentence("COMPLEMENT of an ELEMENT: at each PLACE the number that it has at the PLACE of all other LETTERS (b),"
            + " times SIGN of the PRODUCT of b and that PLACE.");
        s.test("SIGNS of four letters", "read \"" + ALL_ONES + "\" = 3\n" + """
            becomes(1, 0, 1) = 16
            of(1, *) = 1 2 1 1 2 2 1 2 1 1 2 1 1 2 1 1
            """);
        s.test("the first place has that of all letters, the last that of none", """
            read "n4;0:2+3abcd" = 2
            becomes(0, 0, 1) = 2
            of(0, *) = 3 0 0 0 0 0 0 0 0 0 0 0 0 0 0 2
            """);
        s.test("all numbers, three letters", """
            read "p7;0:1+2a+3b+4ab+5c+6ac+bc+2abc" = 2
            becomes(1, 0, 1) = 8
            of(1, *) = 2 1 1 5 4 4 2 1
            """);
        s.test("all numbers, two letters", """
            read "n2;0:1+2a+3b+4ab" = 2
            becomes(1, 0, 1) = 4
            of(1, *) = 4 2 2 1
            """);
    }

    private static void generators(Sentences s) {
        s.sentence("GENERATORS: ELEMENTS (4 at most; none at first), as they were when they came.");
        s.test("none at first", """
            told(3) = 0
            generator(0, 0) = NONE
            rank(*) = 0 0 0
            """);
        s.test("four at most", """
            generate(0) = 1
            generate(0) = 2
            generate(0) = 3
            generate(0) = 4
            told(3) = 4
            generator(3, 0) = 0
            generator(4, 0) = NONE
            """);
        s.refused("FULL", "4 times generate(0)", "generate(0)", "generate(5)");
        s.test("as they were: set", """
            read "0:a;g0" = 2
            set(0, 1, 3)
            set(0, 2, 3)
            generator(0, *) = 0 1 0 0 0 0 0 0
            rank(0) = 4
            """);
        s.test("as they were: product, mix, becomes", """
            read "0:a;1:b;2:ab;g0;g1;g2" = 6
            product(0, 0, 0) = 0
            mix(1, 1, 3, 1, 3) = 1
            becomes(2, 2, 0) = 1
            generator(0, *) = 0 1 0 0 0 0 0 0
            generator(1, *) = 0 0 1 0 0 0 0 0
            generator(2, *) = 0 0 0 1 0 0 0 0
            """);
        s.test("as they were: a clause of a text", """
            read "0:a;g0;0:b" = 3
            generator(0, *) = 0 1 0 0 0 0 0 0
            """);
    }

    private static void ideals(Sentences s) {
        s.sentence("THE IDEAL of a SIDE: 0 LEFT: all sums of PRODUCTS x g, g a GENERATOR, x any ELEMENT;");
        s.test("without generators there is but the element that is all 0", """
            read "0:a" = 1
            within(0, 0) = 0
            within(0, 1) = 1
            """);
        s.test("d (a + bc) lies in it, (a + bc) d does not", SIDED + """
            rank(0) = 8
            within(0, *) = 1 1 0 0 1 1
            """);
        s.test("any x: multiples by numbers, and sums of several generators'", """
            read "0:a+2b;1:c;2:3a+b-2c;g0;g1" = 5
            within(0, 2) = 1
            set(2, 1, 4) = 3
            within(0, 2) = 0
            """);
        s.test("a generator with a number at place 0 makes it all", """
            read "n4;p7;0:6+a+bcd;g0" = 4
            rank(0) = 16
            """);
        s.sentence("1 RIGHT: of g x;");
        s.test("without generators there is but the element that is all 0", """
            read "0:a" = 1
            within(1, 0) = 0
            within(1, 1) = 1
            """);
        s.test("(a + bc) d lies in it, d (a + bc) does not", SIDED + """
            rank(1) = 8
            within(1, *) = 1 0 1 0 1 1
            """);
        s.sentence("2 BOTH: of x g y.");
        s.test("without generators there is but the element that is all 0", """
            read "0:a" = 1
            within(2, 0) = 0
            within(2, 1) = 1
            """);
        s.test("d (a + bc), (a + bc) d and their sums lie in it", SIDED + """
            rank(2) = 9
            within(2, *) = 1 1 1 1 1 1
            """);
        s.test("modulo 2 the sides are the same", """
            read "n4;p2;0:a+bc;g0" = 4
            rank(*) = 8 8 8
            """);
    }

    private static void order(Sentences s) {
        s.sentence("ORDER of PLACES, a KIND: 0 BY NUMBER (at first): the least number first;");
        s.test("at first", """
            told(2) = 0
            read "0:ab+c" = 1
            lead(0) = 3
            """);
        s.test("all sixteen places", """
            read "n4;0:1;g0" = 3
            basis(0, *, -1) = 0 1 2 3 4 5 6 7 8 9 10 11 12 13 14 15 NONE
            """);
        s.sentence("1 BY DEGREE: of fewer LETTERS first, of as many the least number.");
        s.test("all four places of two letters", """
            read "n2;o1;0:1;g0" = 4
            basis(1, *, -1) = 0 1 2 3 NONE
            """);
        s.test("all eight places of three letters", """
            read "o1;0:1;g0" = 3
            basis(1, *, -1) = 0 1 2 4 3 5 6 7 NONE
            """);
        s.test("all sixteen places of four letters", """
            read "n4;o1;0:1;g0" = 4
            basis(2, *, -1) = 0 1 2 4 8 3 5 6 9 10 12 7 11 13 14 15 NONE
            """);
        s.refusedFor("NONE", "order(1)", "order(?)", "-1", "2", "MIN", "MAX");
    }

    private static void lead(Sentences s) {
        s.sentence("LEAD of an ELEMENT that isn't all 0: the first PLACE in ORDER at which it isn't 0.");
        s.test("of one that is all 0 there is none", """
            lead(0) = -5
            order(1) = 0
            lead(0) = -5
            """);
        s.test("place 0 and the last place", """
            read "n4;0:2;1:abcd;2:3+abcd" = 4
            lead(*) = 0 15 0
            order(1) = 0
            lead(*) = 0 15 0
            """);
        s.test("the two orders differ", """
            read "n4;0:abc+d;1:ab+c+d;2:abc+cd" = 4
            lead(*) = 7 3 7
            order(1) = 0
            lead(*) = 8 4 12
            """);
    }

    private static void basis(Sentences s) {
        s.sentence("BASIS of a SIDE: those ELEMENTS of THE IDEAL by which each of it is told in just one way as a sum of"
            + " multiples, each with 1 at its LEAD, 0 at LEADS of the others;");
        s.test("1 at its lead", """
            read "p7;n2;0:3a+b;g0" = 4
            basis(0, 0, *) = 0 1 5 0
            basis(0, 1, *) = 0 0 0 1
            """);
        s.test("0 at leads of the others", """
            read "n2;0:a+b+ab;1:2b+3ab;g0;g1" = 5
            basis(0, 0, *) = 0 1 0 0
            basis(0, 1, *) = 0 0 1 0
            basis(0, 2, *) = 0 0 0 1
            """);
        s.test("0 at leads of the others, in the first one too", """
            read "0:1+a+2abc;g0" = 2
            basis(0, 0, *) = 1 0 0 0 0 0 0 0
            basis(0, 1, *) = 0 1 0 0 0 0 0 0
            """);
        s.test("in just one way: what is there already brings nothing", """
            read "0:a;1:3a;2:ab-2a;g0;g0;g1;g2" = 7
            rank(*) = 4 4 4
            """);
        s.test("the lead hangs on ORDER, and so does what is 1", """
            read "0:ab+2c;g0" = 2
            basis(0, 0, *) = 0 0 0 1 2 0 0 0
            order(1) = 0
            basis(0, 0, *) = 0 0 0 3 1 0 0 0
            """);
        s.sentence("numbered from 0 by their LEADS in ORDER.");
        s.test("by number", """
            read "0:c;1:ab;g0;g1" = 4
            basis(0, *, -1) = 3 4 5 6 7 NONE
            """);
        s.test("by degree", """
            read "o1;0:ab;1:c;g0;g1" = 5
            basis(0, *, -1) = 4 3 5 6 7 NONE
            """);
        s.test("none below 0", """
            read "0:1;g0" = 2
            basis(0, -1, -1) = NONE
            basis(0, -1, 0) = NONE
            """);
        s.test("of fewer letters than there were: no leads beyond their places", """
            read "n4;0:1;g0" = 3
            basis(0, *, -1) = 0 1 2 3 4 5 6 7 8 9 10 11 12 13 14 15
            read "n3;0:abc;g0" = 3
            basis(0, *, -1) = 7 NONE NONE
            read "n2;0:b;g0" = 3
            basis(0, *, -1) = 2 3 NONE NONE
            """);
        s.sentence("RANK: how many.");
        s.test("none", "rank(*) = 0 0 0 NONE");
        s.test("one", """
            read "n4;0:abcd;g0" = 3
            rank(*) = 1 1 1
            """);
        s.test("all but one", """
            read "n4;0:a;1:b;2:c;3:d;g0;g1;g2;g3" = 9
            rank(*) = 15 15 15
            """);
        s.test("all", """
            read "n4;0:1+abcd;g0" = 3
            rank(*) = 16 16 16
            """);
    }

    private static void rest(Sentences s) {
        s.sentence("REST of an ELEMENT by a SIDE: what it becomes, if for each of BASIS as often that ELEMENT is taken from"
            + " it as it has at its LEAD: it has 0 at all LEADS then;");
        s.test("by no ideal it stays", """
            read "0:1+2a+4abc" = 1
            rest(0, 0, *) = 1 2 0 0 0 0 0 4
            """);
        s.test("by all that there is nothing is left", """
            read "0:1;g0;0:1+2a+4abc" = 3
            rest(1, 0, *) = 0 0 0 0 0 0 0 0
            """);
        s.test("0 at all leads, the rest moved by what was taken", """
            read "0:2a+c;g0;1:1+a+b+c+3ab" = 3
            rest(0, 1, *) = 1 0 1 0 3 0 4 0
            rest(2, 1, *) = 1 0 1 0 3 0 4 0
            """);
        s.test("by either order another one", """
            read "0:ab+2c;g0;1:ab+c" = 3
            rest(0, 1, *) = 0 0 0 0 4 0 0 0
            order(1) = 0
            rest(0, 1, *) = 0 0 0 3 0 0 0 0
            """);
        s.sentence("it lies WITHIN, if REST is all 0.");
        s.test("all 0, and one place from it", """
            read "0:a+b;g0;1:2a+2b+ab" = 3
            within(0, 1) = 1
            rest(0, 1, *) = 0 0 0 0 0 0 0 0
            set(1, 4, 1) = 0
            within(0, 1) = 0
            rest(0, 1, *) = 0 0 0 0 1 0 0 0
            """);
        s.test("0 lies within nothing", "within(*, 0) = 1 1 1 NONE");
    }
}
