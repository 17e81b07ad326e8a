/** Promises 30 to 33: event, after, book, looked. */
public final class EventsBooksTest {
    private static final Check CHECK = new Check("EventsBooksTest");
    private static final int[] FAR = {Integer.MIN_VALUE, Integer.MAX_VALUE, -2};

    public static void main(String[] args) {
        event();
        after();
        afterWithoutRoom();
        afterOfLetters();
        afterBySide();
        afterByHand();
        afterOneGoes();
        afterRefusals();
        book();
        looked();
        CHECK.end();
    }

    private static void due(String what, long got, long want) {
        CHECK.due(what, got, want);
    }

    private static void event() {
        OuterIdeals x = new OuterIdeals();
        for (int what : FAR) {
            due("30 what " + what, x.event(what, 0), OuterIdeals.NONE);
        }
        due("30 what 5", x.event(5, 0), OuterIdeals.NONE);
        for (int n : new int[] {-1, 6, Integer.MIN_VALUE, Integer.MAX_VALUE}) {
            due("30 element " + n, x.event(0, n), OuterIdeals.NONE);
        }
        for (int n : new int[] {-1, 2, Integer.MIN_VALUE, Integer.MAX_VALUE}) {
            due("30 kind " + n, x.event(3, n), OuterIdeals.NONE);
        }
        for (int what : new int[] {1, 2, 4}) {
            for (int n : new int[] {-1, 4, Integer.MIN_VALUE, Integer.MAX_VALUE}) {
                due("30 what " + what + " n " + n, x.event(what, n), OuterIdeals.BAD);
            }
        }
        due("30 none came", x.counted(0), 0);
        int[][] rows = {{0, 5}, {0, 0}, {1, 3}, {2, 3}, {3, 1}, {3, 0}, {4, 3}, {4, 0}};
        for (int i = 0; i < rows.length; i++) {
            due("30 row " + i, x.event(rows[i][0], rows[i][1]), i + 1);
        }
        due("30 full", x.event(0, 0), OuterIdeals.FULL);
        due("30 none comes ahead of full", x.event(0, 6), OuterIdeals.NONE);
        due("30 bad comes ahead of full", x.event(1, 4), OuterIdeals.BAD);
        due("30 eight", x.counted(0), 8);
        due("30 emptied", x.event(-1, Integer.MIN_VALUE), 0);
        due("30 none", x.counted(0), 0);
        due("30 the first again", x.event(0, 1), 1);
    }

    private static void afters(String what, OuterIdeals x, int rank, int lead, int generators) {
        due("31 rank, " + what, x.after(0, 0), rank);
        due("31 lead, " + what, x.after(0, 1), lead);
        due("31 generators, " + what, x.after(0, 2), generators);
    }

    private static void after() {
        OuterIdeals x = Check.with("0:a;1:b+ac;g0");
        afters("nothing happens", x, 4, 1, 1);
        x.event(0, 1);
        afters("b + ac comes", x, 6, 1, 2);
        Check.read(x, "1:c");
        afters("as the element is now", x, 6, 1, 2);
        Check.read(x, "1:b+ac");
        x.event(4, 0);
        afters("a goes", x, 4, 2, 1);
        x.event(3, 1);
        afters("by degree", x, 4, 2, 1);
        x.event(1, 0);
        // a (b + ac) = ab
        afters("a times it", x, 2, 3, 1);
        x.event(2, 1);
        afters("times b: all 0, and yet one", x, 0, -5, 1);
        x.event(4, 1);
        afters("no second one goes", x, 0, -5, 1);
        x.event(4, 0);
        afters("it goes", x, 0, -5, 0);
        due("31 generators stay", x.told(3), 1);
        due("31 order stays", x.told(2), 0);
        due("31 the generator stays", x.generator(0, 1), 1);
        due("31 rank stays", x.rank(0), 4);
    }

    private static void afterWithoutRoom() {
        OuterIdeals x = Check.with("0:ab;1:c;g0;g0;g0;g0");
        x.event(0, 1);
        afters("no room for c", x, 2, 3, 4);
        x.event(4, 3);
        x.event(0, 1);
        afters("room by then", x, 5, 3, 4);
        x.event(3, 1);
        afters("by degree", x, 5, 4, 4);
    }

    private static void afterOfLetters() {
        OuterIdeals x = Check.with("n2;0:1;g0");
        x.event(1, 2);
        x.event(2, 3);
        afters("there are no such letters", x, 4, 0, 1);
        x.event(2, 1);
        afters("b is there", x, 2, 2, 1);
        x.letters(4);
        Check.read(x, "0:1;g0");
        afters("there are such letters now", x, 2, 14, 1);
    }

    private static void afterBySide() {
        OuterIdeals x = Check.with("n4;0:1;1:a+bc;g0");
        x.event(4, 0);
        x.event(0, 1);
        due("31 left", x.after(0, 0), 8);
        due("31 right", x.after(1, 0), 8);
        due("31 both", x.after(2, 0), 9);
        x.event(1, 3);
        // d (a + bc) = -ad + bcd
        due("31 left", x.after(0, 0), 4);
        due("31 lead", x.after(0, 1), 9);
        Check.read(x, "2:1+ab;x;g2");
        x.event(-1, 0);
        x.event(2, 2);
        due("31 right multiples of (1 + ab) c", x.after(1, 1), 4);
        due("31 right multiples of (1 + ab) c", x.after(1, 0), 8);
    }

    /** d (a + bc) and (a + bc) d are not multiples of one another, so that beside the second only the first counts. */
    private static void afterByHand() {
        OuterIdeals x = Check.with("n4;0:a+bc;1:ad+bcd;g0");
        x.event(2, 3);
        x.event(0, 1);
        due("31 (a + bc) d twice", x.after(0, 0), 4);
        x.event(-1, 0);
        x.event(1, 3);
        x.event(0, 1);
        due("31 d (a + bc) and (a + bc) d", x.after(0, 0), 5);
    }

    private static void afterOneGoes() {
        String[] left = {"1:b;2:c;3:d", "1:a;2:c;3:d", "1:a;2:b;3:d", "1:a;2:b;3:c"};
        for (int n = 0; n < 4; n++) {
            OuterIdeals x = Check.with("n4;0:a;1:b;2:c;3:d;g0;g1;g2;g3");
            x.event(4, n);
            OuterIdeals twin = Check.with("n4;" + left[n] + ";g1;g2;g3");
            due("31 lead when " + n + " goes", x.after(0, 1), n == 0 ? 2 : 1);
            for (int more = 0; more < 3; more++) {
                due("31 rank when " + n + " goes", x.after(0, 0), twin.after(0, 0));
                due("31 lead when " + n + " goes", x.after(0, 1), twin.after(0, 1));
                x.event(4, 0);
                twin.event(4, 0);
            }
            due("31 none left", x.after(0, 2), 0);
        }
    }

    private static void afterRefusals() {
        OuterIdeals x = new OuterIdeals();
        for (int none : new int[] {-1, 3, Integer.MIN_VALUE, Integer.MAX_VALUE}) {
            due("31 side " + none, x.after(none, 0), OuterIdeals.NONE);
            due("31 what " + none, x.after(0, none), OuterIdeals.NONE);
        }
    }

    private static void book() {
        OuterIdeals x = new OuterIdeals();
        for (int spot : new int[] {-2, -100, 8, 99, 108, 116, 508, 600, Integer.MIN_VALUE, Integer.MAX_VALUE}) {
            due("32 spot " + spot, x.book(spot, 0), OuterIdeals.NONE);
            due("32 spot " + spot + " comes ahead of v", x.book(spot, 7), OuterIdeals.NONE);
        }
        for (int v : new int[] {-1, 7, Integer.MIN_VALUE, Integer.MAX_VALUE}) {
            due("32 v " + v, x.book(0, v), OuterIdeals.BAD);
        }
        due("32 none came", x.counted(1), 0);
        int[] spots = {0, 7, 100, 507, 500, 307, 0, 0};
        for (int i = 0; i < spots.length; i++) {
            due("32 row " + i, x.book(spots[i], i % 7), i + 1);
        }
        due("32 full", x.book(0, 0), OuterIdeals.FULL);
        due("32 none comes ahead of full", x.book(8, 0), OuterIdeals.NONE);
        due("32 bad comes ahead of full", x.book(0, 7), OuterIdeals.BAD);
        due("32 eight", x.counted(1), 8);
        due("32 emptied", x.book(-1, Integer.MIN_VALUE), 0);
        due("32 none", x.counted(1), 0);
        due("32 the first again", x.book(0, 0), 1);
        x.letters(4);
        due("32 spot 515 of four letters", x.book(515, 0), 2);
        x.letters(2);
        due("32 spot 4 of two letters", x.book(4, 0), OuterIdeals.NONE);
    }

    private static void looked() {
        OuterIdeals x = Check.with("0:3+2abc;5:a");
        due("33 nothing", x.looked(), -5);
        x.book(0, 3);
        x.book(7, 2);
        x.book(501, 1);
        x.book(502, 0);
        due("33 all so", x.looked(), -5);
        x.set(5, 2, 1);
        due("33 the last is otherwise", x.looked(), 3);
        x.set(0, 7, 1);
        due("33 the second is otherwise", x.looked(), 1);
        x.set(0, 7, 2);
        x.set(5, 2, 0);
        due("33 so again", x.looked(), -5);
        x.letters(2);
        due("33 the first is otherwise", x.looked(), 0);
        x.set(0, 0, 3);
        due("33 place 7 isn't there", x.looked(), 1);
        x.book(-1, 0);
        x.book(3, 6);
        x.set(0, 3, 6);
        due("33 numbers as they are", x.looked(), 0);
        due("33 counted", x.counted(1), 1);
    }
}
