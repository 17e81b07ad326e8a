/** Promises 18 to 27: rank, basis, within, rest, count, series, mean, annihilator, annihilates, step. */
public final class IdealsTest {
    private static final Check CHECK = new Check("IdealsTest");
    private static final int[] NO_SIDES = {-1, 3, Integer.MIN_VALUE, Integer.MAX_VALUE};
    private static final int[] FAR = {Integer.MIN_VALUE, Integer.MAX_VALUE};

    /** With four letters a + bc has left multiples that are no right ones, unless the prime is 2. */
    private static final String SIDED = "n4;0:a+bc;g0;1:bcd-ad;2:ad+bcd;3:bcd";

    public static void main(String[] args) {
        rank();
        basis();
        within();
        rest();
        count();
        series();
        mean();
        annihilator();
        annihilates();
        steps();
        stepRefusals();
        basisFollowsEachChange();
        CHECK.end();
    }

    private static void due(String what, long got, long want) {
        CHECK.due(what, got, want);
    }

    private static void ranks(String text, int left, int right, int both) {
        OuterIdeals x = Check.with(text);
        due("18 left of " + text, x.rank(0), left);
        due("18 right of " + text, x.rank(1), right);
        due("18 both of " + text, x.rank(2), both);
    }

    private static void rank() {
        ranks("x", 0, 0, 0);
        ranks("g0", 0, 0, 0);
        ranks("0:2;g0", 8, 8, 8);
        ranks("0:1+a+bc;g0", 8, 8, 8);
        ranks("0:a;g0", 4, 4, 4);
        ranks("0:a;g0;g0;0:3a;g0", 4, 4, 4);
        ranks("0:a;1:b;2:c;g0;g1;g2", 7, 7, 7);
        ranks("n4;0:abcd;g0", 1, 1, 1);
        ranks("n4;0:ab+cd;g0", 6, 6, 6);
        ranks("n2;0:a+b;g0", 2, 2, 2);
        ranks(SIDED, 8, 8, 9);
        ranks("n4;p2;0:a+bc;g0", 8, 8, 8);
        OuterIdeals x = new OuterIdeals();
        for (int side : NO_SIDES) {
            due("18 side " + side, x.rank(side), OuterIdeals.NONE);
        }
    }

    private static void row(OuterIdeals x, int side, int i, int lead, int... want) {
        due("19 lead of " + i, x.basis(side, i, -1), lead);
        for (int place = 0; place < want.length; place++) {
            due("19 basis " + i + " at " + place, x.basis(side, i, place), want[place]);
        }
    }

    private static void basis() {
        // a times it is 4ab, b times it is 3ab: beside it there is ab alone
        OuterIdeals x = Check.with("n2;0:2a+4b+ab;g0");
        row(x, 0, 0, 1, 0, 1, 2, 0);
        row(x, 0, 1, 3, 0, 0, 0, 1);
        due("19 no third", x.basis(0, 2, -1), OuterIdeals.NONE);
        due("19 no third", x.basis(0, 2, 0), OuterIdeals.NONE);

        OuterIdeals y = Check.with("0:ab+2c;g0");
        // its multiples are 2ac, 2bc (with signs), abc
        row(y, 0, 0, 3, 0, 0, 0, 1, 2, 0, 0, 0);
        row(y, 0, 1, 5, 0, 0, 0, 0, 0, 1, 0, 0);
        row(y, 0, 2, 6, 0, 0, 0, 0, 0, 0, 1, 0);
        row(y, 0, 3, 7, 0, 0, 0, 0, 0, 0, 0, 1);
        y.order(1);
        row(y, 0, 0, 4, 0, 0, 0, 3, 1, 0, 0, 0);
        row(y, 0, 1, 5, 0, 0, 0, 0, 0, 1, 0, 0);

        OuterIdeals all = Check.with("n2;p3;0:2+a;g0");
        row(all, 1, 0, 0, 1, 0, 0, 0);
        row(all, 1, 3, 3, 0, 0, 0, 1);

        OuterIdeals z = Check.with(SIDED);
        row(z, 0, 0, 1, 0, 1, 0, 0, 0, 0, 1, 0, 0, 0, 0, 0, 0, 0, 0, 0);
        due("19 left", z.basis(0, 4, -1), 9);
        due("19 left", z.basis(0, 4, 14), 4);
        due("19 right", z.basis(1, 4, -1), 9);
        due("19 right", z.basis(1, 4, 14), 1);
        due("19 both", z.basis(2, 4, -1), 9);
        due("19 both", z.basis(2, 4, 14), 0);
        due("19 both", z.basis(2, 8, -1), 15);
        due("19 no ninth of left", z.basis(0, 8, -1), OuterIdeals.NONE);
        for (int side : NO_SIDES) {
            due("19 side " + side, z.basis(side, 0, 0), OuterIdeals.NONE);
        }
        for (int far : FAR) {
            due("19 i " + far, z.basis(0, far, 0), OuterIdeals.NONE);
            due("19 place " + far, z.basis(0, 0, far), OuterIdeals.NONE);
        }
        due("19 i -1", z.basis(0, -1, 0), OuterIdeals.NONE);
        due("19 place -2", z.basis(0, 0, -2), OuterIdeals.NONE);
        due("19 place 16", z.basis(0, 0, 16), OuterIdeals.NONE);
    }

    private static void within() {
        OuterIdeals x = Check.with(SIDED);
        int[][] want = {{1, 1, 1}, {1, 0, 1}, {0, 1, 1}, {0, 0, 1}, {1, 1, 1}};
        for (int element = 0; element < want.length; element++) {
            for (int side = 0; side < 3; side++) {
                due("20 element " + element + " side " + side, x.within(side, element), want[element][side]);
            }
        }
        for (int side : NO_SIDES) {
            due("20 side " + side, x.within(side, 0), OuterIdeals.NONE);
        }
        for (int element : new int[] {-1, 6, Integer.MIN_VALUE, Integer.MAX_VALUE}) {
            due("20 element " + element, x.within(0, element), OuterIdeals.NONE);
        }
        due("20 all 0 lies within nothing", new OuterIdeals().within(1, 0), 1);
        due("20 a number does not", Check.with("0:1").within(1, 0), 0);
    }

    private static void rest() {
        OuterIdeals x = Check.with("0:2a+c;g0;1:1+a+b+c+3ab");
        // taken: 1 of a + 3c, 3 of ab + 3cb = ab + 2bc; left: 1 + b - 2c - 6bc
        int[] want = {1, 0, 1, 0, 3, 0, 4, 0};
        for (int place = 0; place < want.length; place++) {
            due("21 at " + place, x.rest(0, 1, place), want[place]);
            due("21 of the generator at " + place, x.rest(0, 0, place), 0);
        }
        due("21 the element stays", x.of(1, 3), 3);
        for (int side : NO_SIDES) {
            due("21 side " + side, x.rest(side, 0, 0), OuterIdeals.NONE);
        }
        for (int element : new int[] {-1, 6, Integer.MIN_VALUE, Integer.MAX_VALUE}) {
            due("21 element " + element, x.rest(0, element, 0), OuterIdeals.NONE);
        }
        for (int place : new int[] {-1, 8, Integer.MIN_VALUE, Integer.MAX_VALUE}) {
            due("21 place " + place, x.rest(0, 0, place), OuterIdeals.NONE);
        }
        OuterIdeals y = Check.with(SIDED);
        due("21 by left", y.rest(0, 2, 14), 2);
        due("21 by right", y.rest(1, 2, 14), 0);
        due("21 by both", y.rest(2, 2, 14), 0);
    }

    private static void count() {
        OuterIdeals x = Check.with("0:ab+2c;g0");
        int[] byNumber = {0, 0, 3, 1};
        int[] byDegree = {0, 1, 2, 1};
        for (int d = 0; d < 4; d++) {
            due("22 by number " + d, x.count(0, d), byNumber[d]);
        }
        x.order(1);
        for (int d = 0; d < 4; d++) {
            due("22 by degree " + d, x.count(2, d), byDegree[d]);
        }
        for (int side : NO_SIDES) {
            due("22 side " + side, x.count(side, 0), OuterIdeals.NONE);
        }
        for (int d : new int[] {-1, 4, Integer.MIN_VALUE, Integer.MAX_VALUE}) {
            due("22 d " + d, x.count(0, d), OuterIdeals.NONE);
        }
        x.letters(4);
        due("22 d 4 of four letters", x.count(0, 4), 0);
        due("22 d 5", x.count(0, 5), OuterIdeals.NONE);
    }

    /** How many places of each degree are no leads, worked out by hand. */
    private static void seriesOf(String text, int side, int... free) {
        OuterIdeals x = Check.with(text);
        for (int num = 1; num <= 99; num += 7) {
            for (int den = 1; den <= 99; den += 14) {
                float at = (float) num / (float) den;
                float s = 0.0f;
                for (int d = free.length - 1; d >= 0; d--) {
                    s = s * at + (float) free[d];
                }
                due("23 " + text + " at " + num + "/" + den, x.series(side, num, den), Float.floatToIntBits(s));
            }
        }
    }

    private static void series() {
        seriesOf("x", 0, 1, 3, 3, 1);
        seriesOf("n4", 2, 1, 4, 6, 4, 1);
        seriesOf("0:1;g0", 1, 0, 0, 0, 0);
        seriesOf("0:ab+2c;g0", 0, 1, 3, 0, 0);
        seriesOf("o1;0:ab+2c;g0", 0, 1, 2, 1, 0);
        seriesOf(SIDED, 0, 1, 3, 3, 1, 0);
        seriesOf(SIDED, 2, 1, 3, 3, 0, 0);
        seriesOf("n2;0:ab;g0", 1, 1, 2, 0);
        OuterIdeals x = new OuterIdeals();
        due("23 99 by 99", x.series(0, 99, 99), Float.floatToIntBits(8.0f));
        for (int side : NO_SIDES) {
            due("23 side " + side, x.series(side, 1, 1), OuterIdeals.NONE);
            due("23 side " + side + " ahead of num", x.series(side, 0, 0), OuterIdeals.NONE);
        }
        for (int bad : new int[] {0, -1, 100, Integer.MIN_VALUE, Integer.MAX_VALUE}) {
            due("23 num " + bad, x.series(0, bad, 1), OuterIdeals.BAD);
            due("23 den " + bad, x.series(0, 1, bad), OuterIdeals.BAD);
        }
    }

    private static void meanOf(String text, int side, int degrees, int rank) {
        double want = rank == 0 ? 0.0 : (double) degrees / (double) rank;
        due("24 " + text, Check.with(text).mean(side), Double.doubleToLongBits(want));
    }

    private static void mean() {
        meanOf("x", 0, 0, 0);
        meanOf("0:1;g0", 1, 12, 8);
        meanOf("0:ab+2c;g0", 0, 9, 4);
        meanOf("o1;0:ab+2c;g0", 0, 8, 4);
        meanOf("n4;0:abcd;g0", 2, 4, 1);
        meanOf("n4;0:ab+cd;g0", 0, 2 + 12 + 4, 6);
        meanOf(SIDED, 0, 1 + 3 * 2 + 3 * 3 + 4, 8);
        meanOf(SIDED, 2, 1 + 3 * 2 + 4 * 3 + 4, 9);
        meanOf("n4;0:a;1:b;2:c;3:d;g0;g1;g2;g3", 0, 32, 15);
        OuterIdeals x = new OuterIdeals();
        for (int side : NO_SIDES) {
            due("24 side " + side, x.mean(side), OuterIdeals.NO);
        }
    }

    private static void annihilators(String text, int side, int hand, int rank, int again, int lead) {
        OuterIdeals x = Check.with(text);
        String what = "25 " + text + " side " + side + " hand " + hand;
        due(what + " rank", x.annihilator(side, hand, 0), rank);
        due(what + " again", x.annihilator(side, hand, 1), again);
        due(what + " lies in it", x.annihilator(side, hand, 2), 1);
        due(what + " lead", x.annihilator(side, hand, 3), lead);
    }

    private static void annihilator() {
        for (int hand = 0; hand < 2; hand++) {
            annihilators("x", 0, hand, 8, 0, 0);
            annihilators("n4;g0", 1, hand, 16, 0, 0);
            annihilators("0:1;g0", 2, hand, 0, 8, -5);
            annihilators("0:a;g0", 0, hand, 4, 4, 1);
            annihilators("0:abc;g0", 1, hand, 7, 1, 1);
            annihilators("0:a;1:b;g0;g1", 1, hand, 2, 6, 3);
            annihilators(SIDED, 2, hand, 7, 9, 3);
        }
        // x with x y (a + bc) = 0 for each y is nought on both sides; with y (a + bc) x = 0 only on one
        annihilators(SIDED, 0, 0, 7, 9, 3);
        annihilators(SIDED, 0, 1, 8, 8, 1);
        annihilators(SIDED, 1, 1, 7, 9, 3);
        annihilators(SIDED, 1, 0, 8, 8, 1);
        OuterIdeals x = Check.with(SIDED);
        for (int side : NO_SIDES) {
            due("25 side " + side, x.annihilator(side, 0, 0), OuterIdeals.NONE);
        }
        for (int hand : new int[] {-1, 2, Integer.MIN_VALUE, Integer.MAX_VALUE}) {
            due("25 hand " + hand, x.annihilator(0, hand, 0), OuterIdeals.NONE);
        }
        for (int what : new int[] {-1, 4, Integer.MIN_VALUE, Integer.MAX_VALUE}) {
            due("25 what " + what, x.annihilator(0, 0, what), OuterIdeals.NONE);
        }
        OuterIdeals y = Check.with("0:ab+2c;g0");
        due("25 lead by number", y.annihilator(0, 0, 3), 3);
        y.order(1);
        due("25 lead by degree", y.annihilator(0, 0, 3), 4);
    }

    private static void annihilates() {
        // ab + 2c: x = a + .. is none; ab + mc is nought with it, if (2 + m) abc is: m = 3
        OuterIdeals x = Check.with("0:ab+2c;g0");
        int[][] want = {{0, 0, 0, 1, 3, 0, 0, 0}, {0, 0, 0, 0, 0, 1, 0, 0}, {0, 0, 0, 0, 0, 0, 1, 0},
            {0, 0, 0, 0, 0, 0, 0, 1}};
        due("26 rank", x.annihilator(0, 0, 0), 4);
        for (int i = 0; i < 4; i++) {
            for (int place = 0; place < 8; place++) {
                due("26 " + i + " at " + place, x.annihilates(0, 0, i, place), want[i][place]);
                due("26 other hand " + i + " at " + place, x.annihilates(0, 1, i, place), want[i][place]);
            }
        }
        x.order(1);
        due("26 by degree", x.annihilates(0, 0, 0, 4), 1);
        due("26 by degree", x.annihilates(0, 0, 0, 3), 2);
        OuterIdeals nothing = new OuterIdeals();
        due("26 of nothing", nothing.annihilates(0, 0, 0, 0), 1);
        due("26 of nothing", nothing.annihilates(0, 0, 0, 1), 0);
        due("26 of nothing", nothing.annihilates(2, 1, 7, 7), 1);
        OuterIdeals y = Check.with(SIDED);
        due("26 hand 1", y.annihilates(0, 1, 0, 1), 1);
        // (a + bc) (a + m bc) = (1 + m) abc
        due("26 hand 1", y.annihilates(0, 1, 0, 6), 4);
        due("26 no ninth", y.annihilates(0, 1, 8, 0), OuterIdeals.NONE);
        due("26 no eighth by hand 0", y.annihilates(0, 0, 7, 0), OuterIdeals.NONE);
        for (int side : NO_SIDES) {
            due("26 side " + side, y.annihilates(side, 0, 0, 0), OuterIdeals.NONE);
        }
        for (int hand : new int[] {-1, 2, Integer.MIN_VALUE, Integer.MAX_VALUE}) {
            due("26 hand " + hand, y.annihilates(0, hand, 0, 0), OuterIdeals.NONE);
        }
        for (int i : new int[] {-1, 16, Integer.MIN_VALUE, Integer.MAX_VALUE}) {
            due("26 i " + i, y.annihilates(0, 0, i, 0), OuterIdeals.NONE);
        }
        for (int place : new int[] {-1, 16, Integer.MIN_VALUE, Integer.MAX_VALUE}) {
            due("26 place " + place, y.annihilates(0, 0, 0, place), OuterIdeals.NONE);
        }
    }

    private static void stepsOf(String text, int... want) {
        OuterIdeals x = Check.with(text);
        for (int k = 0; k < want.length; k++) {
            due("27 step " + k + " of " + text, x.step(k), want[k]);
        }
    }

    /** Those of powers of the letters are known from the resolutions that go on in one degree a step. */
    private static void steps() {
        for (int p : new int[] {2, 3, 5, 7}) {
            stepsOf("p" + p, 0, 0, 0);
            stepsOf("g0;p" + p + ";g0", 0, 0, 0);
            stepsOf("p" + p + ";0:1+a;g0", 1, 0, 0);
            stepsOf("p" + p + ";0:a;g0", 1, 1, 1);
            stepsOf("p" + p + ";n2;0:a;1:b;g0;g1", 2, 3, 4);
            stepsOf("p" + p + ";n2;0:ab;g0", 1, 2, 3);
            stepsOf("p" + p + ";0:a;1:b;g0;g1", 2, 3, 4);
            stepsOf("p" + p + ";0:a;1:b;2:c;g0;g1;g2", 3, 6, 10);
            stepsOf("p" + p + ";0:ab;1:ac;2:bc;g0;g1;g2", 3, 8, 15);
            stepsOf("p" + p + ";0:abc;g0", 1, 3, 6);
            stepsOf("p" + p + ";n4;0:a;1:b;2:c;3:d;g0;g1;g2;g3", 4, 10, OuterIdeals.STATE);
            stepsOf("p" + p + ";n4;0:abcd;g0", 1, 4, OuterIdeals.STATE);
            stepsOf("p" + p + ";n4;0:ab+cd;g0", 1, 5, OuterIdeals.STATE);
            stepsOf("p" + p + ";n4;0:abc;1:abd;2:acd;3:bcd;g0;g1;g2;g3", 4, 15, OuterIdeals.STATE);
            stepsOf("p" + p + ";0:a+bc;g0", 1, 1, 1);
        }
        stepsOf("0:a;1:ab;2:3a;g0;g1;g2", 1, 1, 1);
        stepsOf("n4;0:a;1:b;g0;g1", 2, 3, OuterIdeals.STATE);
        for (String letter : new String[] {"a", "b", "c"}) {
            stepsOf("0:" + letter + ";1:abc;g0;g1", 1, 1, 1);
        }
        stepsOf("0:ab;1:ac;g0;g1", 2, 5, 9);
        stepsOf("0:a;1:bc;g0;g1", 2, 4, 7);
        // what is (a + bc) d lies beside the left multiples of a + bc, what is d (a + bc) does not
        stepsOf(SIDED + ";g1", 1, 1, OuterIdeals.STATE);
        stepsOf(SIDED + ";g2", 2, 5, OuterIdeals.STATE);
    }

    private static void stepRefusals() {
        OuterIdeals x = new OuterIdeals();
        for (int k : new int[] {-1, 3, Integer.MIN_VALUE, Integer.MAX_VALUE}) {
            due("27 step " + k, x.step(k), OuterIdeals.NONE);
        }
        x.letters(4);
        due("27 step 2 of four letters", x.step(2), OuterIdeals.STATE);
        due("27 step 3 of four letters", x.step(3), OuterIdeals.NONE);
    }

    private static void basisFollowsEachChange() {
        OuterIdeals x = Check.with("0:ab+2c;1:a;g0");
        due("19 ahead", x.rank(0), 4);
        x.generate(1);
        due("19 behind generate", x.rank(0), 6);
        x.order(1);
        due("19 behind order", x.basis(0, 0, -1), 1);
        due("19 behind order", x.basis(0, 1, -1), 4);
        x.order(0);
        due("19 behind order", x.basis(0, 1, -1), 3);
        x.image();
        x.clear();
        due("19 behind clear", x.rank(0), 0);
        x.undo();
        due("19 behind undo", x.rank(0), 6);
        Check.read(x, "x;g1");
        due("19 behind read", x.rank(0), 4);
        x.prime(3);
        due("19 behind prime", x.rank(0), 0);
        x.undo();
        due("19 behind undo", x.rank(1), 6);
        x.letters(3);
        due("19 behind letters", x.rank(1), 0);
    }
}
