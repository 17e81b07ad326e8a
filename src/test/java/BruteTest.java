import java.util.HashSet;
import java.util.Random;
import java.util.Set;

/**
 * Promises 18, 20, 25, 28, 29 in algebras so small that all elements can be gone through: an ideal is the set that
 * holds the generators and, with any two, their sum and, with any one, all its products.
 */
public final class BruteTest {
    private static final Check CHECK = new Check("BruteTest");

    private final int n;
    private final int p;
    private final int width;
    private final int size;

    private BruteTest(int n, int p) {
        this.n = n;
        this.p = p;
        width = 1 << n;
        int all = 1;
        for (int i = 0; i < width; i++) {
            all *= p;
        }
        size = all;
    }

    public static void main(String[] args) {
        new BruteTest(2, 2).all();
        new BruteTest(2, 3).some(80, 11);
        new BruteTest(2, 5).some(6, 12);
        new BruteTest(3, 2).some(60, 13);
        CHECK.end();
    }

    /** Every pair of generators. */
    private void all() {
        for (int first = 0; first < size; first++) {
            for (int second = 0; second <= first; second++) {
                judge(first, second);
            }
        }
    }

    private void some(int often, long seed) {
        Random random = new Random(seed);
        for (int i = 0; i < often; i++) {
            int first = random.nextInt(size) / p * p;
            judge(first, random.nextBoolean() ? 0 : random.nextInt(size) / p * p);
        }
    }

    private int[] numbers(int code) {
        int[] x = new int[width];
        for (int place = 0, rest = code; place < width; place++, rest /= p) {
            x[place] = rest % p;
        }
        return x;
    }

    private int code(int[] x) {
        int code = 0;
        for (int place = width - 1; place >= 0; place--) {
            code = code * p + x[place];
        }
        return code;
    }

    private int[] sum(int[] x, int[] y) {
        int[] z = new int[width];
        for (int place = 0; place < width; place++) {
            z[place] = (x[place] + y[place]) % p;
        }
        return z;
    }

    /** The pairs counted one by one, as the document tells them. */
    private static int sign(int a, int b) {
        int pairs = 0;
        for (int i = 0; i < 4; i++) {
            for (int j = 0; j < i; j++) {
                pairs += (a >> i & 1) * (b >> j & 1);
            }
        }
        return (a & b) != 0 ? 0 : pairs % 2 == 0 ? 1 : -1;
    }

    private int[] product(int[] x, int[] y) {
        int[] z = new int[width];
        for (int a = 0; a < width; a++) {
            for (int b = 0; b < width; b++) {
                z[a | b] = Math.floorMod(z[a | b] + sign(a, b) * x[a] * y[b], p);
            }
        }
        return z;
    }

    private int[] unit(int place) {
        int[] x = new int[width];
        x[place] = 1;
        return x;
    }

    private Set<Integer> ideal(int side, int... generators) {
        Set<Integer> within = new HashSet<>();
        within.add(0);
        for (int generator : generators) {
            for (int a = 0; a < width; a++) {
                for (int b = 0; b < width; b++) {
                    if ((side == 0 && b > 0) || (side == 1 && a > 0)) {
                        continue;
                    }
                    spread(within, product(product(unit(a), numbers(generator)), unit(b)));
                }
            }
        }
        return within;
    }

    /** All sums of what is there and a multiple of x. */
    private void spread(Set<Integer> within, int[] x) {
        if (within.contains(code(x))) {
            return;
        }
        Set<Integer> before = new HashSet<>(within);
        int[] multiple = new int[width];
        for (int times = 1; times < p; times++) {
            multiple = sum(multiple, x);
            for (int other : before) {
                within.add(code(sum(numbers(other), multiple)));
            }
        }
    }

    private Set<Integer> annihilator(Set<Integer> ideal, int hand) {
        Set<Integer> found = new HashSet<>();
        for (int x = 0; x < size; x++) {
            boolean nought = true;
            for (int g : ideal) {
                nought = nought && code(hand == 0 ? product(numbers(x), numbers(g)) : product(numbers(g), numbers(x))) == 0;
                if (!nought) {
                    break;
                }
            }
            if (nought) {
                found.add(x);
            }
        }
        return found;
    }

    private int rankOf(Set<Integer> span) {
        int rank = 0;
        for (int count = 1; count < span.size(); count *= p) {
            rank++;
        }
        return rank;
    }

    private static void put(OuterIdeals x, int element, int[] numbers) {
        for (int place = 0; place < numbers.length; place++) {
            x.set(element, place, numbers[place]);
        }
    }

    private void judge(int first, int second) {
        OuterIdeals x = new OuterIdeals();
        x.letters(n);
        x.prime(p);
        put(x, 0, numbers(first));
        put(x, 1, numbers(second));
        x.generate(0);
        x.generate(1);
        for (int side = 0; side < 3; side++) {
            String what = "n " + n + " p " + p + " generators " + first + " " + second + " side " + side;
            Set<Integer> ideal = ideal(side, first, second);
            CHECK.due("18 " + what, x.rank(side), rankOf(ideal));
            CHECK.due("29 " + what, x.odds(side, 1) * ideal.size(), size);
            judgeElements(what, x, side, ideal);
            for (int hand = 0; hand < 2; hand++) {
                Set<Integer> nought = annihilator(ideal, hand);
                CHECK.due("25 " + what + " hand " + hand, x.annihilator(side, hand, 0), rankOf(nought));
                Set<Integer> again = annihilator(nought, 1 - hand);
                CHECK.due("25 again " + what + " hand " + hand, x.annihilator(side, hand, 1), rankOf(again));
                CHECK.due("25 in it " + what + " hand " + hand, x.annihilator(side, hand, 2), again.containsAll(ideal) ? 1 : 0);
            }
        }
    }

    private void judgeElements(String what, OuterIdeals x, int side, Set<Integer> ideal) {
        for (int element = 0; element < size; element += 1 + size / 60) {
            int[] numbers = numbers(element);
            put(x, 2, numbers);
            CHECK.due("20 " + what + " element " + element, x.within(side, 2), ideal.contains(element) ? 1 : 0);
            int place = element % width;
            int fitting = 0;
            int least = -5;
            for (int v = p - 1; v >= 0; v--) {
                numbers[place] = v;
                fitting += ideal.contains(code(numbers)) ? 1 : 0;
                least = ideal.contains(code(numbers)) ? v : least;
            }
            CHECK.due("28 " + what + " element " + element, x.fits(side, 2, place, 0), fitting);
            CHECK.due("28 least " + what + " element " + element, x.fits(side, 2, place, 1), least);
        }
    }
}
