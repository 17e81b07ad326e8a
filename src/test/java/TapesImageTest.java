/** Promises 34 to 41: judge, image, undo, counted, tape, item, peek, shift. */
public final class TapesImageTest {
    private static final Check CHECK = new Check("TapesImageTest");
    private static final int NOTHING = -11, CAST = -12, PLACE = -13, SIZE = -14;
    private static final int[] NO_TAPES = {-1, 6, Integer.MIN_VALUE, Integer.MAX_VALUE};

    public static void main(String[] args) {
        judge();
        judgeRefusals();
        imageAndUndo();
        imageLeavesTheRest();
        counted();
        tape();
        item();
        peek();
        shift();
        shiftRefusals();
        CHECK.end();
    }

    private static void due(String what, long got, long want) {
        CHECK.due(what, got, want);
    }

    private static void judge() {
        OuterIdeals x = Check.with("0:1+2a+3abc");
        x.tape(0, 0, 10);
        x.item(0, 2, 1);
        x.item(0, 3, 2);
        x.item(0, 9, 3);
        due("34 all so", x.judge(0, 0, 2), -5);
        due("34 from the first place on", x.judge(0, 0, 0), 0);
        due("34 a row that ends", x.judge(0, 0, 3), 0);
        x.item(0, 8, 1);
        due("34 place 6", x.judge(0, 0, 2), 6);
        x.item(0, 8, 0);
        x.item(0, 9, 255);
        due("34 a byte below 0", x.judge(0, 0, 2), 7);
        x.tape(1, 0, 3);
        due("34 three zeros", x.judge(1, 1, 0), 103);
        due("34 two zeros", x.judge(1, 1, 1), 102);
        due("34 at the end", x.judge(1, 1, 3), 100);
        due("34 beyond the end", x.judge(1, 1, 4), 100);
        due("34 far beyond", x.judge(1, 1, Integer.MAX_VALUE), 100);
        due("34 below 0", x.judge(1, 1, -1), 100);
        due("34 far below", x.judge(1, 1, Integer.MIN_VALUE), 100);
        x.item(1, 2, 1);
        due("34 otherwise ahead of the end", x.judge(1, 1, 1), 1);
        due("34 nothing there", x.judge(0, 5, 0), 100);
        due("34 nothing there, below 0", x.judge(0, 5, -1), 100);
        x.tape(2, 0, 0);
        due("34 an empty row", x.judge(0, 2, 0), 100);
        x.tape(3, 0, 8);
        due("34 just as long", x.judge(5, 3, 0), -5);
        x.letters(2);
        due("34 four places now", x.judge(5, 3, 4), -5);
        due("34 three are looked at", x.judge(5, 3, 5), 103);
    }

    private static void judgeRefusals() {
        OuterIdeals x = new OuterIdeals();
        for (int none : NO_TAPES) {
            due("34 element " + none, x.judge(none, 0, 0), OuterIdeals.NONE);
            due("34 tape " + none, x.judge(0, none, 0), OuterIdeals.NONE);
        }
        for (int sort = 1; sort <= 4; sort++) {
            x.tape(0, sort, 8);
            due("34 sort " + sort, x.judge(0, 0, 0), CAST);
            due("34 sort " + sort + " below 0", x.judge(0, 0, -1), CAST);
            due("34 element ahead of sort " + sort, x.judge(6, 0, 0), OuterIdeals.NONE);
        }
    }

    private static void imageAndUndo() {
        OuterIdeals x = new OuterIdeals();
        due("36 none", x.undo(), OuterIdeals.STATE);
        Check.read(x, "n4;p7;o1;0:6abcd+d;5:a;g0;g5");
        x.event(0, 5);
        x.event(4, 0);
        x.book(15, 6);
        x.book(501, 1);
        due("35 taken", x.image(), 2);
        due("35 nothing changed", x.told(3), 2);
        x.letters(2);
        x.prime(3);
        x.order(0);
        x.event(-1, 0);
        x.event(3, 0);
        x.book(-1, 0);
        x.set(0, 3, 1);
        x.generate(0);
        due("36 as it was", x.undo(), 2);
        int[] told = {4, 7, 1, 2, 16};
        for (int what = 0; what < told.length; what++) {
            due("36 told " + what, x.told(what), told[what]);
        }
        due("36 element", x.of(0, 15), 6);
        due("36 element", x.of(0, 8), 1);
        due("36 element", x.of(0, 3), 0);
        due("36 generator", x.generator(0, 15), 6);
        due("36 generator", x.generator(1, 1), 1);
        due("36 events", x.counted(0), 2);
        due("36 events", x.after(0, 2), 2);
        due("36 book", x.counted(1), 2);
        due("36 book", x.looked(), -5);
        due("36 rank", x.rank(2), 12);
        x.set(0, 15, 2);
        x.clear();
        due("36 once more", x.undo(), 2);
        due("36 once more", x.of(0, 15), 6);
        due("36 the generators too", x.generator(0, 8), 1);
        x.clear();
        due("35 a later image", x.image(), 0);
        x.generate(0);
        due("36 of the later image", x.undo(), 0);
    }

    private static void imageLeavesTheRest() {
        OuterIdeals x = new OuterIdeals();
        x.feed('x');
        x.tape(0, 3, 1);
        x.image();
        x.feed(';');
        x.item(0, 0, 9);
        x.tape(1, 0, 2);
        x.undo();
        due("36 the text stays", x.counted(2), 2);
        due("36 tapes stay", x.peek(0, 0), 9);
        due("36 tapes stay", x.peek(1, 1), 0);
    }

    private static void counted() {
        OuterIdeals x = new OuterIdeals();
        x.event(0, 0);
        x.event(1, 0);
        x.event(2, 0);
        x.book(0, 0);
        x.book(0, 1);
        x.feed('x');
        due("37 events", x.counted(0), 3);
        due("37 book", x.counted(1), 2);
        due("37 text", x.counted(2), 1);
        for (int what : new int[] {-1, 3, Integer.MIN_VALUE, Integer.MAX_VALUE}) {
            due("37 what " + what, x.counted(what), OuterIdeals.BAD);
        }
    }

    private static void tape() {
        OuterIdeals x = new OuterIdeals();
        for (int tape : NO_TAPES) {
            due("38 tape " + tape, x.tape(tape, 0, 1), OuterIdeals.NONE);
            due("38 no tape comes ahead of bad", x.tape(tape, 9, 99), OuterIdeals.NONE);
            due("38 no tape to hold nothing", x.tape(tape, -1, 0), OuterIdeals.NONE);
        }
        for (int sort : new int[] {-2, 5, Integer.MIN_VALUE, Integer.MAX_VALUE}) {
            due("38 sort " + sort, x.tape(0, sort, 1), OuterIdeals.BAD);
            due("38 sort " + sort + " comes ahead of size", x.tape(0, sort, -1), OuterIdeals.BAD);
        }
        due("38 61 items", x.tape(0, 0, 61), OuterIdeals.BAD);
        due("38 far too many", x.tape(0, 0, Integer.MAX_VALUE), OuterIdeals.BAD);
        due("38 below 0", x.tape(0, 0, -1), SIZE);
        due("38 far below 0", x.tape(0, 4, Integer.MIN_VALUE), SIZE);
        due("38 still nothing", x.item(0, 0, 1), NOTHING);
        for (int sort = 0; sort <= 4; sort++) {
            due("38 sixty", x.tape(5, sort, 60), 1);
            due("38 all 0", x.peek(5, 59), 0);
            x.item(5, 0, 1);
            x.item(5, 59, 1);
            due("38 anew", x.tape(5, sort, 60), 1);
            due("38 all 0 again", x.peek(5, 0), 0);
            due("38 all 0 again", x.peek(5, 59), 0);
        }
        due("38 an empty row", x.tape(5, 0, 0), 1);
        due("38 has no place", x.item(5, 0, 1), PLACE);
        due("38 nothing, whatever n is", x.tape(5, -1, Integer.MIN_VALUE), 1);
        due("38 nothing", x.item(5, 0, 1), NOTHING);
        due("38 nothing, whatever n is", x.tape(5, -1, 61), 1);
        x.tape(4, 0, 5);
        x.item(4, 4, 3);
        x.tape(4, 0, 2);
        x.tape(4, 0, 5);
        due("38 all 0 beyond a shorter row", x.peek(4, 4), 0);
        x.item(4, 4, 3);
        due("38 refused", x.tape(4, 0, 61), OuterIdeals.BAD);
        due("38 refused", x.tape(4, 0, -1), SIZE);
        due("38 stays as it was", x.peek(4, 4), 3);
    }

    private static void item() {
        OuterIdeals x = new OuterIdeals();
        long v = 0x1234_5678_9abc_def0L;
        long[] want = {(byte) v, (short) v, (int) v, v, 1};
        for (int sort = 0; sort <= 4; sort++) {
            x.tape(sort, sort, 3);
            due("39 becomes, sort " + sort, x.item(sort, 2, v), 1);
            due("39 lowest bits, sort " + sort, x.peek(sort, 2), want[sort]);
            due("39 beside it", x.peek(sort, 1), 0);
            due("39 minus one", x.item(sort, 0, -1), 1);
            due("39 minus one, sort " + sort, x.peek(sort, 0), sort == 4 ? 1 : -1);
            due("39 place 3", x.item(sort, 3, 1), PLACE);
            due("39 place -1", x.item(sort, -1, 1), PLACE);
            due("39 far", x.item(sort, Integer.MAX_VALUE, 1), PLACE);
            due("39 far", x.item(sort, Integer.MIN_VALUE, 1), PLACE);
        }
        x.item(0, 1, 128);
        due("39 a byte of 128", x.peek(0, 1), -128);
        x.item(1, 1, 65536);
        due("39 a short of 65536", x.peek(1, 1), 0);
        x.item(2, 1, 1L << 31);
        due("39 an int of 2^31", x.peek(2, 1), Integer.MIN_VALUE);
        x.item(3, 1, Long.MIN_VALUE);
        due("39 the least long", x.peek(3, 1), Long.MIN_VALUE);
        x.item(4, 1, 1L << 32);
        due("39 a boolean by high bits", x.peek(4, 1), 1);
        x.item(4, 1, 0);
        due("39 a boolean of 0", x.peek(4, 1), 0);
        for (int tape : NO_TAPES) {
            due("39 tape " + tape, x.item(tape, 0, 1), OuterIdeals.NONE);
        }
        due("39 nothing", x.item(5, 0, 1), NOTHING);
        due("39 nothing comes ahead of place", x.item(5, -1, 1), NOTHING);
    }

    private static void peek() {
        OuterIdeals x = new OuterIdeals();
        x.tape(1, 3, 2);
        x.item(1, 1, 77);
        due("40 first", x.peek(1, 0), 0);
        due("40 second", x.peek(1, 1), 77);
        due("40 no third", x.peek(1, 2), OuterIdeals.NO);
        due("40 below 0", x.peek(1, -1), OuterIdeals.NO);
        due("40 far", x.peek(1, Integer.MAX_VALUE), OuterIdeals.NO);
        due("40 far", x.peek(1, Integer.MIN_VALUE), OuterIdeals.NO);
        due("40 nothing there", x.peek(0, 0), OuterIdeals.NO);
        x.tape(1, -1, 0);
        due("40 nothing there any more", x.peek(1, 1), OuterIdeals.NO);
        for (int tape : NO_TAPES) {
            due("40 tape " + tape, x.peek(tape, 0), OuterIdeals.NO);
        }
    }

    private static void row(String what, OuterIdeals x, int tape, int... want) {
        for (int i = 0; i < want.length; i++) {
            due(what + " at " + i, x.peek(tape, i), want[i]);
        }
        due(what + " ends", x.peek(tape, want.length), OuterIdeals.NO);
    }

    private static OuterIdeals twoRows() {
        OuterIdeals x = new OuterIdeals();
        x.tape(0, 2, 5);
        x.tape(1, 2, 4);
        for (int i = 0; i < 5; i++) {
            x.item(0, i, i + 1);
            x.item(1, i, -1 - i);
        }
        return x;
    }

    private static void shift() {
        OuterIdeals x = twoRows();
        due("41 two", x.shift(0, 3, 1, 0, 2), 2);
        row("41 two", x, 1, 4, 5, -3, -4);
        row("41 whence", x, 0, 1, 2, 3, 4, 5);
        due("41 within, onward", x.shift(0, 0, 0, 1, 4), 4);
        row("41 within, onward", x, 0, 1, 1, 2, 3, 4);
        due("41 within, back", x.shift(0, 2, 0, 0, 3), 3);
        row("41 within, back", x, 0, 2, 3, 4, 3, 4);
        due("41 none at the ends", x.shift(0, 5, 1, 4, 0), 0);
        due("41 all", x.shift(1, 0, 0, 1, 4), 4);
        row("41 all", x, 0, 2, 4, 5, -3, -4);
        due("41 onto itself", x.shift(0, 0, 0, 0, 5), 5);
        row("41 onto itself", x, 0, 2, 4, 5, -3, -4);
    }

    private static void shiftRefusals() {
        OuterIdeals x = twoRows();
        x.tape(2, 3, 5);
        for (int tape : NO_TAPES) {
            due("41 tape " + tape, x.shift(tape, 0, 0, 0, 1), OuterIdeals.NONE);
            due("41 other " + tape, x.shift(0, 0, tape, 0, 1), OuterIdeals.NONE);
            due("41 no tape comes ahead of nothing", x.shift(5, 0, tape, 0, 1), OuterIdeals.NONE);
        }
        due("41 nothing", x.shift(5, 0, 0, 0, 1), NOTHING);
        due("41 nothing", x.shift(0, 0, 5, 0, 1), NOTHING);
        due("41 nothing comes ahead of place", x.shift(0, -1, 5, 0, 1), NOTHING);
        due("41 unlike", x.shift(0, 0, 2, 0, 1), CAST);
        due("41 unlike comes ahead of place", x.shift(0, -1, 2, 0, 1), CAST);
        int max = Integer.MAX_VALUE;
        int min = Integer.MIN_VALUE;
        int[][] beyond = {{-1, 0, 1}, {0, -1, 1}, {0, 0, -1}, {5, 0, 1}, {0, 4, 1}, {0, 0, 5}, {1, 0, 5}, {4, 0, 2},
            {6, 0, 0}, {0, 5, 0}, {max, 0, 1}, {0, max, 1}, {1, 1, max}, {max, max, max}, {min, 0, 1}, {0, min, 1},
            {0, 0, min}, {min, min, min}};
        for (int[] args : beyond) {
            due("41 " + args[0] + " " + args[1] + " " + args[2], x.shift(0, args[0], 1, args[1], args[2]), PLACE);
        }
        row("41 nothing changed", x, 0, 1, 2, 3, 4, 5);
        row("41 nothing changed", x, 1, -1, -2, -3, -4);
    }
}
