/** Promises 28 and 29: fits, odds. */
public final class FitsOddsTest {
    private static final Check CHECK = new Check("FitsOddsTest");
    private static final int[] NO_SIDES = {-1, 3, Integer.MIN_VALUE, Integer.MAX_VALUE};

    public static void main(String[] args) {
        fits();
        fitsBySide();
        fitsRefusals();
        odds();
        CHECK.end();
    }

    private static void due(String what, long got, long want) {
        CHECK.due(what, got, want);
    }

    private static void fit(OuterIdeals x, int element, int place, int howMany, int least) {
        due("28 how many, element " + element + " place " + place, x.fits(0, element, place, 0), howMany);
        due("28 least, element " + element + " place " + place, x.fits(0, element, place, 1), least);
    }

    private static void fits() {
        // within lie the multiples of a + 2b, with any numbers at ab, ac + 2bc and abc
        OuterIdeals x = Check.with("0:a+2b;g0;1:3a;2:1;3:2ab;4:a+b+c");
        fit(x, 0, 1, 1, 1);
        fit(x, 0, 2, 1, 2);
        fit(x, 1, 2, 1, 1);
        fit(x, 1, 1, 1, 0);
        fit(x, 1, 0, 0, -5);
        fit(x, 2, 0, 1, 0);
        fit(x, 2, 1, 0, -5);
        fit(x, 3, 3, 5, 0);
        fit(x, 3, 7, 5, 0);
        fit(x, 3, 6, 1, 0);
        fit(x, 4, 4, 0, -5);
        fit(x, 4, 1, 0, -5);
        due("28 the element stays", x.of(3, 3), 2);
        OuterIdeals all = Check.with("p7;0:1;g0");
        fit(all, 0, 0, 7, 0);
        fit(all, 5, 7, 7, 0);
        OuterIdeals nothing = Check.with("p2;0:a");
        fit(nothing, 0, 1, 1, 0);
        fit(nothing, 0, 2, 0, -5);
        fit(nothing, 1, 2, 1, 0);
    }

    private static void fitsBySide() {
        OuterIdeals x = Check.with("n4;0:a+bc;g0;1:bcd");
        due("28 left", x.fits(0, 1, 9, 1), 4);
        due("28 right", x.fits(1, 1, 9, 1), 1);
        due("28 both", x.fits(2, 1, 9, 1), 0);
        due("28 left", x.fits(0, 1, 9, 0), 1);
        due("28 both", x.fits(2, 1, 9, 0), 5);
    }

    private static void fitsRefusals() {
        OuterIdeals x = new OuterIdeals();
        for (int none : NO_SIDES) {
            due("28 side " + none, x.fits(none, 0, 0, 0), OuterIdeals.NONE);
        }
        for (int none : new int[] {-1, 6, Integer.MIN_VALUE, Integer.MAX_VALUE}) {
            due("28 element " + none, x.fits(0, none, 0, 0), OuterIdeals.NONE);
        }
        for (int none : new int[] {-1, 8, Integer.MIN_VALUE, Integer.MAX_VALUE}) {
            due("28 place " + none, x.fits(0, 0, none, 0), OuterIdeals.NONE);
        }
        for (int none : new int[] {-1, 2, Integer.MIN_VALUE, Integer.MAX_VALUE}) {
            due("28 what " + none, x.fits(0, 0, 0, none), OuterIdeals.NONE);
        }
    }

    private static void chance(String text, int side, long below) {
        OuterIdeals x = Check.with(text);
        due("29 above, " + text, x.odds(side, 0), 1);
        due("29 below, " + text, x.odds(side, 1), below);
    }

    private static void odds() {
        chance("n4;p7", 0, 33232930569601L);
        chance("n4;p2", 1, 65536);
        chance("n2;p3", 2, 81);
        chance("0:1;g0", 0, 1);
        chance("0:a;g0", 0, 625);
        chance("n4;0:a+bc;g0", 0, 390625);
        chance("n4;0:a+bc;g0", 1, 390625);
        chance("n4;0:a+bc;g0", 2, 78125);
        OuterIdeals x = new OuterIdeals();
        for (int none : NO_SIDES) {
            due("29 side " + none, x.odds(none, 0), OuterIdeals.NO);
        }
        for (int none : new int[] {-1, 2, Integer.MIN_VALUE, Integer.MAX_VALUE}) {
            due("29 part " + none, x.odds(0, none), OuterIdeals.NO);
        }
    }
}
