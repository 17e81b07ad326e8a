/** Promises 13 to 17: of, told, generator, places, lead. */
public final class ToldTest {
    private static final Check CHECK = new Check("ToldTest");
    private static final int[] FAR = {Integer.MIN_VALUE, Integer.MAX_VALUE, -1};

    public static void main(String[] args) {
        of();
        told();
        generator();
        places();
        lead();
        CHECK.end();
    }

    private static void due(String what, long got, long want) {
        CHECK.due(what, got, want);
    }

    private static void of() {
        OuterIdeals x = Check.with("0:1+2a+3bc;5:4abc");
        int[] want = {1, 2, 0, 0, 0, 0, 3, 0};
        for (int place = 0; place < want.length; place++) {
            due("13 at " + place, x.of(0, place), want[place]);
        }
        due("13 last", x.of(5, 7), 4);
        for (int none : FAR) {
            due("13 element", x.of(none, 0), OuterIdeals.NONE);
            due("13 place", x.of(0, none), OuterIdeals.NONE);
        }
        due("13 element 6", x.of(6, 0), OuterIdeals.NONE);
        due("13 place 8", x.of(0, 8), OuterIdeals.NONE);
        x.letters(4);
        due("13 place 15", x.of(0, 15), 0);
        due("13 place 16", x.of(0, 16), OuterIdeals.NONE);
        x.letters(2);
        due("13 place 3", x.of(0, 3), 0);
        due("13 place 4", x.of(0, 4), OuterIdeals.NONE);
    }

    private static void told() {
        OuterIdeals x = Check.with("n4;p7;o1;g0;g0;g0");
        int[] want = {4, 7, 1, 3, 16};
        for (int what = 0; what < want.length; what++) {
            due("14 " + what, x.told(what), want[what]);
        }
        due("14 what 5", x.told(5), OuterIdeals.NONE);
        for (int none : FAR) {
            due("14 what " + none, x.told(none), OuterIdeals.NONE);
        }
    }

    private static void generator() {
        OuterIdeals x = Check.with("0:1+2a;g0;0:3abc;g0");
        due("15 first", x.generator(0, 0), 1);
        due("15 first", x.generator(0, 1), 2);
        due("15 first", x.generator(0, 7), 0);
        due("15 second", x.generator(1, 7), 3);
        due("15 second", x.generator(1, 0), 0);
        due("15 no third", x.generator(2, 0), OuterIdeals.NONE);
        due("15 place 8", x.generator(0, 8), OuterIdeals.NONE);
        for (int none : FAR) {
            due("15 generator", x.generator(none, 0), OuterIdeals.NONE);
            due("15 place", x.generator(0, none), OuterIdeals.NONE);
        }
    }

    private static void places() {
        OuterIdeals x = new OuterIdeals();
        x.letters(4);
        due("16 nothing and nothing", x.places(0, 0), 2);
        due("16 nothing and all", x.places(0, 15), 1502);
        due("16 all and nothing", x.places(15, 0), 1502);
        due("16 a b", x.places(1, 2), 302);
        due("16 b a", x.places(2, 1), 300);
        due("16 d abc", x.places(8, 7), 1500);
        due("16 abc d", x.places(7, 8), 1502);
        due("16 cd ab", x.places(12, 3), 1502);
        due("16 bd ac", x.places(10, 5), 1500);
        due("16 ac bd", x.places(5, 10), 1500);
        due("16 d a", x.places(8, 1), 900);
        due("16 a letter in common", x.places(9, 8), -5);
        due("16 all in common", x.places(15, 15), -5);
        for (int none : new int[] {-1, 16, Integer.MIN_VALUE, Integer.MAX_VALUE}) {
            due("16 a", x.places(none, 0), OuterIdeals.NONE);
            due("16 b", x.places(0, none), OuterIdeals.NONE);
        }
        x.letters(2);
        due("16 not with two letters", x.places(4, 0), OuterIdeals.NONE);
        due("16 not with two letters", x.places(0, 4), OuterIdeals.NONE);
    }

    private static void lead() {
        OuterIdeals x = Check.with("0:2ab+c;1:abc;2:3;4:ac+b");
        due("17 by number", x.lead(0), 3);
        due("17 last place", x.lead(1), 7);
        due("17 place 0", x.lead(2), 0);
        due("17 all 0", x.lead(3), -5);
        due("17 by number", x.lead(4), 2);
        x.order(1);
        due("17 by degree", x.lead(0), 4);
        due("17 last place", x.lead(1), 7);
        due("17 place 0", x.lead(2), 0);
        due("17 all 0", x.lead(3), -5);
        due("17 by degree", x.lead(4), 2);
        due("17 element 6", x.lead(6), OuterIdeals.NONE);
        for (int none : FAR) {
            due("17 element", x.lead(none), OuterIdeals.NONE);
        }
        x.letters(4);
        int[] byDegree = {0, 1, 2, 4, 8, 3, 5, 6, 9, 10, 12, 7, 11, 13, 14, 15};
        for (int i = 15; i >= 0; i--) {
            x.set(0, byDegree[i], 1);
            due("17 order of degrees " + i, x.lead(0), byDegree[i]);
        }
    }
}
