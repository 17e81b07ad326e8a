/** Promises 11 and 12: feed, read. */
public final class TextTest {
    private static final Check CHECK = new Check("TextTest");

    public static void main(String[] args) {
        feed();
        faults();
        done();
        sums();
        clausesInTurn();
        refusedClauses();
        longTexts();
        CHECK.end();
    }

    private static void due(String what, long got, long want) {
        CHECK.due(what, got, want);
    }

    private static void feed() {
        OuterIdeals x = new OuterIdeals();
        for (int sign : new int[] {-1, 128, 255, Integer.MIN_VALUE, Integer.MAX_VALUE}) {
            due("11 sign " + sign, x.feed(sign), OuterIdeals.BAD);
        }
        due("11 nothing came", x.counted(2), 0);
        due("11 sign 0", x.feed(0), 1);
        due("11 sign 127", x.feed(127), 2);
        for (int i = 3; i <= 100; i++) {
            due("11 sign number " + i, x.feed('x'), i);
        }
        due("11 full", x.feed('x'), OuterIdeals.FULL);
        due("11 bad comes ahead of full", x.feed(128), OuterIdeals.BAD);
        due("11 hundred", x.counted(2), 100);
        due("11 read empties it", x.read(), -10);
        due("11 empty", x.counted(2), 0);
        due("11 first again", x.feed('x'), 1);
    }

    private static void fault(String text, int place) {
        OuterIdeals x = Check.with("0:2a;1:b;g0");
        due("12 fault of " + text, Check.read(x, text), -10 - place);
        due("12 text is empty behind " + text, x.counted(2), 0);
        due("12 nothing is done of " + text, x.of(0, 1), 2);
        due("12 generators stay for " + text, x.told(3), 1);
    }

    private static void faults() {
        fault("", 0);
        fault(";", 0);
        fault("z", 0);
        fault("a", 0);
        fault("-", 0);
        fault(" x", 0);
        fault("X", 0);
        fault("0", 1);
        fault("0;", 1);
        fault("00", 1);
        fault("0:", 2);
        fault("0:+a", 2);
        fault("0:;", 2);
        fault("0:--a", 3);
        fault("0:-", 3);
        fault("0:e", 2);
        fault("0:a+", 4);
        fault("0:a+-b", 4);
        fault("0:a-;x", 4);
        fault("0:a1", 3);
        fault("0:123", 4);
        fault("0:12a3", 5);
        fault("0:abcda", 6);
        fault("0:1aaaaa", 7);
        fault("0:a b", 3);
        fault("x;", 2);
        fault("x;;x", 2);
        fault("xx", 1);
        fault("x0", 1);
        fault("g", 1);
        fault("ga", 1);
        fault("g00", 2);
        fault("n", 1);
        fault("n-", 1);
        fault("p", 1);
        fault("o", 1);
        fault("o1o", 2);
        fault("x;0:2a;z", 7);
        fault("x;x;x;x;x;x;x;x;x;x;x;x;", 23);
        fault("x;x;x;x;x;x;x;x;x;x;x;x;x", 23);
        fault("x;x;x;x;x;x;x;x;x;x;x;0:a;x", 25);
        fault("x;x;x;x;x;x;x;x;x;x;x;0:", 24);
    }

    private static void done(String text, int clauses) {
        due("12 done of " + text, Check.read(new OuterIdeals(), text), clauses);
    }

    private static void done() {
        done("x", 1);
        done("x;x;x;x;x;x;x;x;x;x;x;x", 12);
        done("0:a", 1);
        done("0:-00", 1);
        done("0:99abca", 1);
        done("9:a", 0);
        done("6:a;5:a", 1);
        done("0:d", 0);
        done("0:0d", 0);
        done("0:aad", 0);
        done("0:a+b-0d", 0);
        done("g5", 1);
        done("g6;g9", 0);
        done("g0;g0;g0;g0;g0;g0", 4);
        done("g0;g0;g0;g0;g0;x;g0", 6);
        done("n0;n1;n2;n3;n4;n5;n9", 3);
        done("p0;p1;p2;p3;p4;p5;p6;p7;p8;p9", 4);
        done("o0;o1;o2;o9", 2);
        done("n4;0:d;n3;0:d", 3);
    }

    private static void sum(String text, int... want) {
        OuterIdeals x = new OuterIdeals();
        Check.read(x, "n4;0:1+2a+3b+4c+abcd");
        due("12 sum of " + text, Check.read(x, "0:" + text), 1);
        for (int place = 0; place < 16; place++) {
            due("12 " + text + " at " + place, x.of(0, place), place < want.length ? want[place] : 0);
        }
    }

    private static void sums() {
        sum("0");
        sum("7", 2);
        sum("-1", 4);
        sum("07", 2);
        sum("99", 4);
        sum("a", 0, 1);
        sum("-a+3b", 0, 4, 3);
        sum("2a+3a");
        sum("2a+2a-a", 0, 3);
        sum("ab", 0, 0, 0, 1);
        sum("ba", 0, 0, 0, 4);
        sum("-3ba", 0, 0, 0, 3);
        sum("aa");
        sum("abab+1", 1);
        sum("dcba", 0, 0, 0, 0, 0, 0, 0, 0, 0, 0, 0, 0, 0, 0, 0, 1);
        sum("bcda", 0, 0, 0, 0, 0, 0, 0, 0, 0, 0, 0, 0, 0, 0, 0, 4);
        sum("12cab", 0, 0, 0, 0, 0, 0, 0, 2);
        sum("10ab", 0, 0, 0, 0);
    }

    private static void clausesInTurn() {
        OuterIdeals x = new OuterIdeals();
        due("12 in turn", Check.read(x, "0:a;g0;0:b;g0;p7;0:6c;g0;o1;n2;1:3a;g1;o1"), 12);
        due("12 letters", x.told(0), 2);
        due("12 prime", x.told(1), 7);
        due("12 order", x.told(2), 1);
        due("12 generators", x.told(3), 1);
        due("12 generator", x.generator(0, 1), 3);
        due("12 element", x.of(0, 1), 0);
        due("12 as it was then", Check.read(x, "2:a;g2;2:b;g2"), 4);
        due("12 as it was then", x.generator(1, 1), 1);
        due("12 as it was then", x.generator(2, 2), 1);
        due("12 x", Check.read(x, "x"), 1);
        due("12 x", x.told(3), 0);
        due("12 x leaves the elements", x.of(2, 2), 1);
    }

    private static void refusedClauses() {
        OuterIdeals x = Check.with("0:1+a;g0");
        due("12 refused", Check.read(x, "0:b+d;6:a;g7;n5;p4;o2;0:0d"), 0);
        due("12 element stays", x.of(0, 0), 1);
        due("12 element stays", x.of(0, 1), 1);
        due("12 element stays", x.of(0, 2), 0);
        due("12 generators stay", x.told(3), 1);
        due("12 letters stay", x.told(0), 3);
        due("12 prime stays", x.told(1), 5);
        due("12 order stays", x.told(2), 0);
        due("12 the same number of letters", Check.read(x, "n3"), 1);
        due("12 clears the elements", x.of(0, 0), 0);
        due("12 clears the generators", x.told(3), 0);
    }

    private static void longTexts() {
        OuterIdeals x = new OuterIdeals();
        String hundred = "0:" + "a+".repeat(48) + "2b";
        due("12 hundred signs", Check.read(x, hundred), 1);
        due("12 48 a", x.of(0, 1), 3);
        due("12 2 b", x.of(0, 2), 2);
        due("12 hundred signs, and too early an end", Check.read(x, "0:" + "a+".repeat(49)), -110);
        due("12 a fault at the last", Check.read(x, "0:" + "a+".repeat(48) + "b0"), -109);
        due("12 what is beyond is not there", Check.read(x, hundred + "z"), 1);
        due("12 untouched by faults", x.of(0, 1), 3);
    }
}
