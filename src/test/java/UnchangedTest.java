import java.util.ArrayList;
import java.util.List;

/**
 * What is refused changes nothing, and what is asked changes nothing: two objects are made alike, only one is then
 * asked and given what it refuses, and both must tell the same of themselves.
 */
public final class UnchangedTest {
    private static final Check CHECK = new Check("UnchangedTest");
    private static final int[] FAR = {-1, -2, 6, 16, 600, Integer.MIN_VALUE, Integer.MAX_VALUE};

    public static void main(String[] args) {
        for (int n = 2; n <= 4; n++) {
            for (int p : new int[] {2, 3, 5, 7}) {
                refusedElements(n, p);
                refusedRows(n, p);
                refusedWhenFull(n, p);
                asked(n, p);
            }
        }
        CHECK.end();
    }

    /** An object with something of everything; its image is otherwise than it is. */
    private static OuterIdeals made(int n, int p) {
        OuterIdeals x = Check.with("n" + n + ";p" + p + ";o1;0:1+b;1:a+b;g1;4:a-ab");
        x.event(0, 1);
        x.book(1, 0);
        x.image();
        Check.read(x, "o0;2:ab+b;3:2ab;5:3-a;g2;g0");
        x.event(1, 1);
        x.event(4, 2);
        x.book(101, 1);
        x.tape(0, 0, 4);
        x.item(0, 1, 1);
        x.tape(1, 3, 2);
        x.item(1, 1, 7);
        x.tape(2, 0, 6);
        Check.feed(x, "0:b;x");
        return x;
    }

    /** All that an object tells of itself; it is used up by this. */
    private static List<Long> tale(OuterIdeals x) {
        List<Long> tale = new ArrayList<>();
        tellState(x, tale);
        tale.add((long) x.read());
        tale.add((long) x.of(0, 2));
        tale.add((long) x.undo());
        tellState(x, tale);
        return tale;
    }

    private static void tellState(OuterIdeals x, List<Long> tale) {
        for (int what = 0; what < 5; what++) {
            tale.add((long) x.told(what));
            tale.add((long) x.counted(what % 3));
        }
        for (int place = 0; place < x.told(4); place++) {
            for (int element = 0; element < 6; element++) {
                tale.add((long) x.of(element, place));
            }
            for (int generator = 0; generator < 4; generator++) {
                tale.add((long) x.generator(generator, place));
            }
        }
        for (int side = 0; side < 3; side++) {
            tale.add((long) x.rank(side));
            tale.add((long) x.after(side, side));
        }
        tale.add((long) x.looked());
        for (int tape = 0; tape < 6; tape++) {
            for (int i = 0; i < 7; i++) {
                tale.add(x.peek(tape, i));
            }
        }
    }

    private static void same(String what, OuterIdeals x, OuterIdeals twin) {
        CHECK.holds(what, tale(x).equals(tale(twin)));
    }

    private static void refused(String what, long answer) {
        CHECK.holds(what + " is refused: " + answer, answer < 0);
    }

    private static void refusedElements(int n, int p) {
        OuterIdeals x = made(n, p);
        for (int far : FAR) {
            refused("letters", x.letters(far));
            refused("prime", x.prime(far));
            refused("order", x.order(far));
            refused("set", x.set(far, 0, 1));
            refused("set", x.set(0, far == 6 ? 1 << n : far, 1));
            refused("product", x.product(far, 0, 1));
            refused("product", x.product(0, far, 1));
            refused("product", x.product(0, 1, far));
            refused("mix", x.mix(far, 0, 1, 1, 1));
            refused("mix", x.mix(0, far, 1, 1, 1));
            refused("mix", x.mix(0, 0, 1, far, 1));
            refused("becomes", x.becomes(far, 0, 1));
            refused("becomes", x.becomes(0, far, 1));
            refused("becomes", x.becomes(0, 1, far));
            refused("generate", x.generate(far));
            refused("feed", x.feed(far == 6 || far == 16 ? 128 : far == 600 ? 255 : far < 0 ? far : -7));
        }
        same("refused elements " + n + " " + p, x, made(n, p));
    }

    private static void refusedRows(int n, int p) {
        OuterIdeals x = made(n, p);
        for (int far : FAR) {
            if (far != -1) {
                refused("event", x.event(far, 0));
                refused("book", x.book(far == 6 ? 99 : far, 0));
                refused("tape", x.tape(0, far, 1));
            }
            refused("event", x.event(0, far));
            refused("event", x.event(1, far));
            refused("event", x.event(3, far));
            refused("event", x.event(4, far));
            refused("book", x.book(0, far == 6 ? 7 : far));
            refused("tape", x.tape(far, 0, 1));
            refused("tape", x.tape(0, 0, far == 6 ? 61 : far == 16 ? 62 : far));
            refused("item", x.item(far, 0, 1));
            refused("item", x.item(0, far, 1));
            refused("item", x.item(5, far, 1));
            refused("shift", x.shift(far, 0, 2, 0, 1));
            refused("shift", x.shift(0, 0, far, 0, 1));
            refused("shift", x.shift(0, far, 2, 0, 1));
            refused("shift", x.shift(0, 0, 2, far, 1));
            refused("shift", x.shift(0, 1, 2, 0, far));
            refused("shift", x.shift(0, 0, 1, 0, 1));
            refused("shift", x.shift(5, 0, 0, 0, 0));
        }
        same("refused rows " + n + " " + p, x, made(n, p));
    }

    private static OuterIdeals filled(int n, int p) {
        OuterIdeals x = made(n, p);
        x.generate(3);
        while (x.counted(0) < 8) {
            x.event(2, 0);
        }
        while (x.counted(1) < 8) {
            x.book(3, 1);
        }
        while (x.counted(2) < 100) {
            x.feed('z');
        }
        return x;
    }

    private static void refusedWhenFull(int n, int p) {
        OuterIdeals x = filled(n, p);
        CHECK.due("generate", x.generate(5), OuterIdeals.FULL);
        CHECK.due("event", x.event(3, 1), OuterIdeals.FULL);
        CHECK.due("book", x.book(0, 0), OuterIdeals.FULL);
        CHECK.due("feed", x.feed('x'), OuterIdeals.FULL);
        same("refused when full " + n + " " + p, x, filled(n, p));
        OuterIdeals fresh = new OuterIdeals();
        CHECK.due("undo", fresh.undo(), OuterIdeals.STATE);
        CHECK.holds("undo without an image", tale(fresh).equals(tale(new OuterIdeals())));
    }

    private static void asked(int n, int p) {
        OuterIdeals x = made(n, p);
        for (int i = -1; i < 5; i++) {
            x.of(i, i);
            x.told(i);
            x.generator(i, i);
            x.places(i, i + 1);
            x.lead(i);
            x.rank(i);
            x.basis(i, 0, i);
            x.within(i, 2);
            x.rest(i, 2, i);
            x.count(i, i);
            x.series(i, 1 + i, 3);
            x.mean(i);
            for (int hand = -1; hand < 3; hand++) {
                x.annihilator(i, hand, i);
                x.annihilator(i, hand, 2);
                x.annihilates(i, hand, 0, i);
            }
            x.step(i);
            x.fits(i, 2, 1, 1);
            x.odds(i, 1);
            x.after(i, 0);
            x.looked();
            x.judge(i, 0, i);
            x.counted(i);
            x.peek(i, i);
        }
        same("asked " + n + " " + p, x, made(n, p));
    }
}
