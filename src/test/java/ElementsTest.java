/** Promises 1 to 10: a new object, letters, prime, order, set, product, mix, becomes, generate, clear. */
public final class ElementsTest {
    private static final Check CHECK = new Check("ElementsTest");
    private static final int[] NO_ELEMENTS = {-1, 6, Integer.MIN_VALUE, Integer.MAX_VALUE};

    public static void main(String[] args) {
        newObject();
        letters();
        prime();
        order();
        set();
        product();
        mix();
        turned();
        complement();
        becomesRest();
        generate();
        clear();
        CHECK.end();
    }

    private static void due(String what, long got, long want) {
        CHECK.due(what, got, want);
    }

    /** The numbers of an element, place by place. */
    private static void element(String what, OuterIdeals x, int element, int... want) {
        for (int place = 0; place < want.length; place++) {
            due(what + " at " + place, x.of(element, place), want[place]);
        }
        due(what + " ends", x.of(element, want.length), OuterIdeals.NONE);
    }

    private static void newObject() {
        OuterIdeals x = new OuterIdeals();
        int[] told = {3, 5, 0, 0, 8};
        for (int what = 0; what < told.length; what++) {
            due("1 told " + what, x.told(what), told[what]);
        }
        for (int element = 0; element < 6; element++) {
            element("1 element " + element, x, element, 0, 0, 0, 0, 0, 0, 0, 0);
        }
        due("1 no generator", x.generator(0, 0), OuterIdeals.NONE);
        for (int what = 0; what < 3; what++) {
            due("1 counted " + what, x.counted(what), 0);
        }
        for (int tape = 0; tape < 6; tape++) {
            due("1 tape " + tape, x.item(tape, 0, 1), -11);
        }
        due("1 no image", x.undo(), OuterIdeals.STATE);
        due("1 nothing looked at", x.looked(), -5);
    }

    private static void letters() {
        OuterIdeals x = Check.with("0:1+2a;5:abc;g0;o1");
        x.event(1, 2);
        x.book(0, 1);
        x.tape(0, 0, 3);
        x.feed('x');
        for (int n : new int[] {1, 5, 0, -1, Integer.MIN_VALUE, Integer.MAX_VALUE}) {
            due("2 letters " + n, x.letters(n), OuterIdeals.BAD);
        }
        due("2 element left", x.of(0, 1), 2);
        due("2 generator left", x.told(3), 1);
        due("2 same number", x.letters(3), 3);
        element("2 element", x, 0, 0, 0, 0, 0, 0, 0, 0, 0);
        element("2 last element", x, 5, 0, 0, 0, 0, 0, 0, 0, 0);
        due("2 generators", x.told(3), 0);
        due("2 rank", x.rank(0), 0);
        due("2 four", x.letters(4), 3);
        due("2 places", x.told(4), 16);
        due("2 prime stays", x.told(1), 5);
        due("2 order stays", x.told(2), 1);
        due("2 events stay", x.counted(0), 1);
        due("2 book stays", x.counted(1), 1);
        due("2 text stays", x.counted(2), 1);
        due("2 tape stays", x.peek(0, 2), 0);
        due("2 two", x.letters(2), 4);
        due("2 places of two", x.told(4), 4);
        due("2 was two", x.letters(3), 2);
    }

    private static void prime() {
        OuterIdeals x = Check.with("0:1+2a;g0;o1");
        for (int p : new int[] {0, 1, 4, 6, 8, 9, 11, 13, -2, -5, Integer.MIN_VALUE, Integer.MAX_VALUE}) {
            due("3 prime " + p, x.prime(p), OuterIdeals.BAD);
        }
        due("3 element left", x.of(0, 1), 2);
        due("3 generator left", x.told(3), 1);
        due("3 same prime", x.prime(5), 5);
        element("3 element", x, 0, 0, 0, 0, 0, 0, 0, 0, 0);
        due("3 generators", x.told(3), 0);
        due("3 two", x.prime(2), 5);
        due("3 three", x.prime(3), 2);
        due("3 seven", x.prime(7), 3);
        due("3 told", x.told(1), 7);
        due("3 letters stay", x.told(0), 3);
        due("3 order stays", x.told(2), 1);
    }

    private static void order() {
        OuterIdeals x = Check.with("n4;0:ab+d;1:cd+abc;2:abcd+bcd");
        due("4 by number", x.lead(0), 3);
        due("4 by number", x.lead(1), 7);
        due("4 by number", x.lead(2), 14);
        due("4 it was", x.order(1), 0);
        due("4 by degree", x.lead(0), 8);
        due("4 by degree", x.lead(1), 12);
        due("4 by degree", x.lead(2), 14);
        for (int kind : new int[] {-1, 2, Integer.MIN_VALUE, Integer.MAX_VALUE}) {
            due("4 order " + kind, x.order(kind), OuterIdeals.NONE);
        }
        due("4 stays", x.told(2), 1);
        due("4 it was", x.order(1), 1);
        due("4 it was", x.order(0), 1);
        due("4 elements stay", x.of(0, 8), 1);
    }

    private static void set() {
        OuterIdeals x = new OuterIdeals();
        due("5 first", x.set(5, 7, 3), 0);
        due("5 below 0", x.set(5, 7, -1), 3);
        due("5 modulo", x.of(5, 7), 4);
        due("5 above", x.set(5, 7, 12), 4);
        due("5 modulo", x.of(5, 7), 2);
        due("5 least int", x.set(5, 7, Integer.MIN_VALUE), 2);
        due("5 modulo", x.of(5, 7), 2);
        due("5 greatest int", x.set(5, 7, Integer.MAX_VALUE), 2);
        due("5 modulo", x.of(5, 7), 2);
        for (int element : NO_ELEMENTS) {
            due("5 element " + element, x.set(element, 0, 1), OuterIdeals.NONE);
        }
        for (int place : new int[] {-1, 8, 15, Integer.MIN_VALUE, Integer.MAX_VALUE}) {
            due("5 place " + place, x.set(0, place, 1), OuterIdeals.NONE);
        }
        element("5 nothing else", x, 0, 0, 0, 0, 0, 0, 0, 0, 0);
        x.letters(4);
        due("5 place 15 of four", x.set(0, 15, 1), 0);
        due("5 place 16", x.set(0, 16, 1), OuterIdeals.NONE);
        x.letters(2);
        due("5 place 4 of two", x.set(0, 4, 1), OuterIdeals.NONE);
    }

    private static void product() {
        OuterIdeals x = Check.with("0:a;1:b;2:1+ab;3:a+b;4:2+c;5:3a-bc");
        due("6 a b", x.product(5, 0, 1), 1);
        element("6 a b", x, 5, 0, 0, 0, 1, 0, 0, 0, 0);
        due("6 b a", x.product(5, 1, 0), 1);
        element("6 b a", x, 5, 0, 0, 0, 4, 0, 0, 0, 0);
        due("6 a a", x.product(5, 0, 0), 0);
        element("6 a a", x, 5, 0, 0, 0, 0, 0, 0, 0, 0);
        due("6 square of an even one, into itself", x.product(2, 2, 2), 2);
        element("6 square", x, 2, 1, 0, 0, 2, 0, 0, 0, 0);
        due("6 square of a sum of letters", x.product(3, 3, 3), 0);
        Check.read(x, "5:3a-bc");
        due("6 into the first factor", x.product(4, 4, 5), 3);
        // (2 + c) (3a - bc) = 6a - 2bc + 3ca - cbc
        element("6 into the first factor", x, 4, 0, 1, 0, 0, 0, 2, 3, 0);
        Check.read(x, "4:2+c");
        due("6 into the second factor", x.product(5, 4, 5), 3);
        for (int none : NO_ELEMENTS) {
            due("6 k", x.product(none, 0, 0), OuterIdeals.NONE);
            due("6 a", x.product(0, none, 0), OuterIdeals.NONE);
            due("6 b", x.product(0, 0, none), OuterIdeals.NONE);
        }
        element("6 nothing changed", x, 0, 0, 1, 0, 0, 0, 0, 0, 0);
        OuterIdeals y = Check.with("n4;p3;0:d+abc;1:c+abd");
        due("6 four letters", y.product(2, 0, 1), 1);
        due("6 d c", y.of(2, 12), 2);
    }

    private static void mix() {
        OuterIdeals x = Check.with("0:a+2b;1:1+3b");
        due("7 both", x.mix(2, 0, 1, 1, 1), 2);
        element("7 both", x, 2, 1, 1, 0, 0, 0, 0, 0, 0);
        due("7 below 0", x.mix(2, 0, -1, 1, 7), 3);
        element("7 below 0", x, 2, 2, 4, 4, 0, 0, 0, 0, 0);
        due("7 far numbers", x.mix(2, 0, Integer.MIN_VALUE, 1, Integer.MAX_VALUE), 2);
        element("7 far numbers", x, 2, 2, 2, 0, 0, 0, 0, 0, 0);
        due("7 into itself, twice", x.mix(0, 0, 1, 0, 2), 2);
        element("7 into itself", x, 0, 0, 3, 1, 0, 0, 0, 0, 0);
        due("7 into the second", x.mix(1, 0, 1, 1, 3), 2);
        element("7 into the second", x, 1, 3, 3, 0, 0, 0, 0, 0, 0);
        due("7 nothing", x.mix(1, 1, 5, 1, -10), 0);
        for (int none : NO_ELEMENTS) {
            due("7 k", x.mix(none, 0, 1, 0, 1), OuterIdeals.NONE);
            due("7 a", x.mix(0, none, 1, 0, 1), OuterIdeals.NONE);
            due("7 b", x.mix(0, 0, 1, none, 1), OuterIdeals.NONE);
        }
        element("7 nothing changed", x, 0, 0, 3, 1, 0, 0, 0, 0, 0);
    }

    private static void turned() {
        OuterIdeals x = Check.with("n4;0:1+2a+3bc+abc+2abcd");
        due("8 turned", x.becomes(1, 0, 0), 5);
        due("8 degree 0", x.of(1, 0), 1);
        due("8 degree 1", x.of(1, 1), 2);
        due("8 degree 2", x.of(1, 6), 2);
        due("8 degree 3", x.of(1, 7), 4);
        due("8 degree 4", x.of(1, 15), 2);
        due("8 into itself", x.becomes(1, 1, 0), 5);
        due("8 back again", x.of(1, 6), 3);
        for (int none : NO_ELEMENTS) {
            due("8 k", x.becomes(none, 0, 0), OuterIdeals.NONE);
            due("8 a", x.becomes(0, none, 0), OuterIdeals.NONE);
        }
        for (int how : new int[] {-1, 5, Integer.MIN_VALUE, Integer.MAX_VALUE}) {
            due("8 how " + how, x.becomes(1, 0, how), OuterIdeals.NONE);
        }
        due("8 nothing changed", x.of(1, 6), 3);
    }

    private static void complement() {
        OuterIdeals x = Check.with("0:1+2b+3bc+4abc");
        due("8 complement", x.becomes(1, 0, 1), 4);
        // at ac stands b's, with the sign of b (ac) = -abc; at a stands bc's, with that of (bc) a = abc
        element("8 complement", x, 1, 4, 3, 0, 0, 0, 3, 0, 1);
        due("8 into itself", x.becomes(0, 0, 1), 4);
        element("8 into itself", x, 0, 4, 3, 0, 0, 0, 3, 0, 1);
        OuterIdeals y = Check.with("n2;p7;0:a+2b");
        due("8 two letters", y.becomes(0, 0, 1), 2);
        element("8 two letters", y, 0, 0, 5, 1, 0);
    }

    private static void becomesRest() {
        OuterIdeals x = Check.with("n4;0:a+bc;g0;1:2ad+b;2:ad+bcd;3:bcd-ad");
        due("8 rest by left", x.becomes(4, 2, 2), 1);
        due("8 rest by left", x.of(4, 14), 2);
        due("8 rest by left, within", x.becomes(4, 3, 2), 0);
        due("8 rest by right, within", x.becomes(4, 2, 3), 0);
        due("8 rest by right", x.becomes(4, 3, 3), 1);
        due("8 rest by right", x.of(4, 14), 2);
        due("8 rest by both", x.becomes(4, 2, 4), 0);
        due("8 rest by both", x.becomes(4, 3, 4), 0);
        due("8 rest into itself", x.becomes(1, 1, 4), 1);
        due("8 rest into itself", x.of(1, 2), 1);
        due("8 rest into itself", x.of(1, 9), 0);
    }

    private static void generate() {
        OuterIdeals x = Check.with("0:a;1:b");
        due("9 first", x.generate(0), 1);
        x.set(0, 1, 3);
        due("9 as it was", x.generator(0, 1), 1);
        due("9 all 0", x.generate(5), 2);
        due("9 twice the same", x.generate(1), 3);
        for (int none : NO_ELEMENTS) {
            due("9 element " + none, x.generate(none), OuterIdeals.NONE);
        }
        due("9 fourth", x.generate(1), 4);
        due("9 full", x.generate(1), OuterIdeals.FULL);
        due("9 no element comes ahead of full", x.generate(6), OuterIdeals.NONE);
        due("9 four", x.told(3), 4);
        due("9 rank", x.rank(0), 6);
    }

    private static void clear() {
        OuterIdeals x = Check.with("0:a;g0;g0;g0");
        due("10 three", x.clear(), 3);
        due("10 none", x.clear(), 0);
        due("10 told", x.told(3), 0);
        due("10 generator", x.generator(0, 1), OuterIdeals.NONE);
        due("10 rank", x.rank(0), 0);
        due("10 elements stay", x.of(0, 1), 1);
        due("10 a first one", x.generate(0), 1);
    }
}
