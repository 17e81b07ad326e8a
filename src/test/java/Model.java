import java.lang.reflect.Array;
import java.math.BigInteger;
import java.util.ArrayList;
import java.util.Comparator;
import java.util.List;
import java.util.regex.Matcher;
import java.util.regex.Pattern;

/**
 * The document once more, written for plainness and by other ways than the class: spans of all products at once,
 * kernels by rows that carry along what they were made of, the form of a text by a pattern, tapes as Java's own rows.
 */
public final class Model {
    private static final int NONE = -1, BAD = -2, STATE = -3, FULL = -4;
    private static final long NO = Long.MIN_VALUE;
    private static final Pattern FORM;

    static {
        String term = "(?:[0-9]{1,2}[a-d]{0,4}|[a-d]{1,4})";
        String sum = "-?" + term + "(?:[+-]" + term + ")*";
        String clause = "(?:[0-9]:" + sum + "|x|[gnpo][0-9])";
        FORM = Pattern.compile(clause + "(?:;" + clause + "){0,11}");
    }

    private int n = 3;
    private int p = 5;
    private int kind = 0;
    private int[][] elements = new int[6][8];
    private List<int[]> generators = new ArrayList<>();
    private List<int[]> events = new ArrayList<>();
    private List<int[]> bookRows = new ArrayList<>();
    private Model kept = null;
    private final StringBuilder text = new StringBuilder();
    private final Object[] tapes = new Object[6];

    public Model() {
    }

    // ---- elements

    public int letters(int m) {
        if (m < 2 || m > 4) {
            return BAD;
        }
        int was = n;
        n = m;
        anew();
        return was;
    }

    public int prime(int q) {
        if (!List.of(2, 3, 5, 7).contains(q)) {
            return BAD;
        }
        int was = p;
        p = q;
        anew();
        return was;
    }

    private void anew() {
        elements = new int[6][1 << n];
        generators = new ArrayList<>();
    }

    public int order(int newKind) {
        if (newKind != 0 && newKind != 1) {
            return NONE;
        }
        int was = kind;
        kind = newKind;
        return was;
    }

    public int set(int element, int place, int v) {
        if (!isElement(element) || !isPlace(place)) {
            return NONE;
        }
        int was = elements[element][place];
        elements[element][place] = mod(v);
        return was;
    }

    public int product(int k, int a, int b) {
        if (!isElement(k) || !isElement(a) || !isElement(b)) {
            return NONE;
        }
        return put(k, times(elements[a], elements[b]));
    }

    public int mix(int k, int a, int u, int b, int v) {
        if (!isElement(k) || !isElement(a) || !isElement(b)) {
            return NONE;
        }
        int[] sum = new int[1 << n];
        for (int i = 0; i < sum.length; i++) {
            sum[i] = mod((long) u * elements[a][i] + (long) v * elements[b][i]);
        }
        return put(k, sum);
    }

    public int becomes(int k, int a, int how) {
        if (!isElement(k) || !isElement(a) || how < 0 || how > 4) {
            return NONE;
        }
        int[] x = elements[a];
        int[] y = new int[1 << n];
        for (int place = 0; place < y.length; place++) {
            if (how == 0) {
                // Turning about writes the letters of each place from the last to the first.
                List<Integer> back = lettersOf(place);
                java.util.Collections.reverse(back);
                y[place] = mod((long) signOf(back) * x[place]);
            } else if (how == 1) {
                int others = y.length - 1 - place;
                y[place] = mod((long) sign(others, place) * x[others]);
            }
        }
        return put(k, how < 2 ? y : restOf(how - 2, x));
    }

    public int generate(int element) {
        if (!isElement(element)) {
            return NONE;
        }
        if (generators.size() == 4) {
            return FULL;
        }
        generators.add(elements[element].clone());
        return generators.size();
    }

    public int clear() {
        int were = generators.size();
        generators.clear();
        return were;
    }

    public int feed(int sign) {
        if (sign < 0 || sign > 127) {
            return BAD;
        }
        if (text.length() == 100) {
            return FULL;
        }
        text.append((char) sign);
        return text.length();
    }

    public int read() {
        String all = text.toString();
        text.setLength(0);
        for (int end = 0; end <= all.length(); end++) {
            Matcher matcher = FORM.matcher(all.substring(0, end));
            boolean whole = matcher.matches();
            if (end == all.length() && whole) {
                break;
            }
            if (!whole && !matcher.hitEnd()) {
                return -10 - (end - 1);
            }
            if (end == all.length()) {
                return -10 - end;
            }
        }
        int done = 0;
        for (String clause : all.split(";")) {
            done += perform(clause) ? 1 : 0;
        }
        return done;
    }

    private boolean perform(String clause) {
        if (clause.equals("x")) {
            clear();
            return true;
        }
        int digit = clause.charAt(1) - '0';
        switch (clause.charAt(0)) {
            case 'g':
                return generate(digit) > 0;
            case 'n':
                return letters(digit) > 0;
            case 'p':
                return prime(digit) > 0;
            case 'o':
                return order(digit) >= 0;
            default:
                return assign(clause.charAt(0) - '0', clause.substring(2));
        }
    }

    private boolean assign(int element, String sum) {
        for (char c : sum.toCharArray()) {
            if (c >= 'a' && c - 'a' >= n) {
                return false;
            }
        }
        if (!isElement(element)) {
            return false;
        }
        int[] x = new int[1 << n];
        Matcher terms = Pattern.compile("([+-]?)([0-9]*)([a-d]*)").matcher(sum);
        while (terms.find()) {
            if (terms.group().isEmpty()) {
                continue;
            }
            int number = terms.group(2).isEmpty() ? 1 : Integer.parseInt(terms.group(2));
            List<Integer> letters = new ArrayList<>();
            int place = 0;
            for (char c : terms.group(3).toCharArray()) {
                letters.add(c - 'a');
                place |= 1 << (c - 'a');
            }
            int sign = signOf(letters) * (terms.group(1).equals("-") ? -1 : 1);
            x[place] = mod((long) x[place] + sign * number);
        }
        elements[element] = x;
        return true;
    }

    // ---- what is told

    public int of(int element, int place) {
        return isElement(element) && isPlace(place) ? elements[element][place] : NONE;
    }

    public int told(int what) {
        int[] all = {n, p, kind, generators.size(), 1 << n};
        return what < 0 || what > 4 ? NONE : all[what];
    }

    public int generator(int generator, int place) {
        return generator < 0 || generator >= generators.size() || !isPlace(place) ? NONE : generators.get(generator)[place];
    }

    public int places(int a, int b) {
        if (!isPlace(a) || !isPlace(b)) {
            return NONE;
        }
        return sign(a, b) == 0 ? -5 : 100 * (a + b) + sign(a, b) + 1;
    }

    public int lead(int element) {
        return isElement(element) ? leadOf(elements[element]) : NONE;
    }

    // ---- ideals

    public int rank(int side) {
        return isSide(side) ? ideal(side).size() : NONE;
    }

    public int basis(int side, int i, int place) {
        if (!isSide(side) || i < 0 || i >= ideal(side).size() || (place != -1 && !isPlace(place))) {
            return NONE;
        }
        int[] row = ideal(side).get(i);
        return place == -1 ? leadOf(row) : row[place];
    }

    public int within(int side, int element) {
        if (!isSide(side) || !isElement(element)) {
            return NONE;
        }
        return isWithin(side, elements[element]) ? 1 : 0;
    }

    public int rest(int side, int element, int place) {
        return isSide(side) && isElement(element) && isPlace(place) ? restOf(side, elements[element])[place] : NONE;
    }

    public int count(int side, int d) {
        if (!isSide(side) || d < 0 || d > n) {
            return NONE;
        }
        int found = 0;
        for (int[] row : ideal(side)) {
            found += lettersOf(leadOf(row)).size() == d ? 1 : 0;
        }
        return found;
    }

    public int series(int side, int num, int den) {
        if (!isSide(side)) {
            return NONE;
        }
        if (num < 1 || num > 99 || den < 1 || den > 99) {
            return BAD;
        }
        int[] binomial = n == 2 ? new int[] {1, 2, 1} : n == 3 ? new int[] {1, 3, 3, 1} : new int[] {1, 4, 6, 4, 1};
        float x = (float) num / (float) den;
        float s = 0.0f;
        for (int d = n; d >= 0; d--) {
            s = s * x + (float) (binomial[d] - count(side, d));
        }
        return Float.floatToIntBits(s);
    }

    public long mean(int side) {
        if (!isSide(side)) {
            return NO;
        }
        int degrees = 0;
        for (int[] row : ideal(side)) {
            degrees += lettersOf(leadOf(row)).size();
        }
        int rank = ideal(side).size();
        return Double.doubleToLongBits(rank == 0 ? 0.0 : (double) degrees / (double) rank);
    }

    public int annihilator(int side, int hand, int what) {
        if (!isSide(side) || hand < 0 || hand > 1 || what < 0 || what > 3) {
            return NONE;
        }
        List<int[]> first = annihilatorOf(ideal(side), hand);
        List<int[]> again = annihilatorOf(first, 1 - hand);
        switch (what) {
            case 0:
                return first.size();
            case 1:
                return again.size();
            case 2:
                List<int[]> together = new ArrayList<>(again);
                together.addAll(ideal(side));
                return rankOf(together) == again.size() ? 1 : 0;
            default:
                return first.isEmpty() ? -5 : leadOf(first.get(0));
        }
    }

    public int annihilates(int side, int hand, int i, int place) {
        if (!isSide(side) || hand < 0 || hand > 1 || !isPlace(place)) {
            return NONE;
        }
        List<int[]> rows = annihilatorOf(ideal(side), hand);
        return i < 0 || i >= rows.size() ? NONE : rows.get(i)[place];
    }

    public int step(int k) {
        if (k < 0 || k > 2) {
            return NONE;
        }
        if (k == 2 && n == 4) {
            return STATE;
        }
        List<int[]> module = ideal(0);
        for (int level = 0; level < k; level++) {
            module = relations(leastGenerators(module), level);
        }
        return module.size() - rankOf(letterProducts(module));
    }

    /** Chosen from the last row on, so that they are others than the class takes. */
    private List<int[]> leastGenerators(List<int[]> module) {
        List<int[]> span = letterProducts(module);
        List<int[]> chosen = new ArrayList<>();
        for (int i = module.size() - 1; i >= 0; i--) {
            int before = rankOf(span);
            span.add(module.get(i));
            if (rankOf(span) > before) {
                chosen.add(module.get(i));
            }
        }
        return chosen;
    }

    private List<int[]> letterProducts(List<int[]> module) {
        List<int[]> products = new ArrayList<>();
        for (int[] row : module) {
            for (int letter = 0; letter < n; letter++) {
                products.add(unitTimesRow(1 << letter, row));
            }
        }
        return products;
    }

    private int[] unitTimesRow(int place, int[] row) {
        int width = 1 << n;
        int[] result = new int[row.length];
        for (int start = 0; start < row.length; start += width) {
            int[] part = java.util.Arrays.copyOfRange(row, start, start + width);
            System.arraycopy(times(unit(place), part), 0, result, start, width);
        }
        return result;
    }

    private List<int[]> relations(List<int[]> chosen, int level) {
        List<int[]> images = new ArrayList<>();
        for (int[] row : chosen) {
            for (int place = 0; place < 1 << n; place++) {
                images.add(unitTimesRow(place, row));
            }
        }
        return kernel(images);
    }

    // ---- fits, odds

    public int fits(int side, int element, int place, int what) {
        if (!isSide(side) || !isElement(element) || !isPlace(place) || what < 0 || what > 1) {
            return NONE;
        }
        List<Integer> fitting = new ArrayList<>();
        for (int v = 0; v < p; v++) {
            int[] x = elements[element].clone();
            x[place] = v;
            if (isWithin(side, x)) {
                fitting.add(v);
            }
        }
        return what == 0 ? fitting.size() : fitting.isEmpty() ? -5 : fitting.get(0);
    }

    public long odds(int side, int part) {
        if (!isSide(side) || part < 0 || part > 1) {
            return NO;
        }
        BigInteger above = BigInteger.valueOf(p).pow(ideal(side).size());
        BigInteger below = BigInteger.valueOf(p).pow(1 << n);
        BigInteger shared = above.gcd(below);
        return (part == 0 ? above : below).divide(shared).longValueExact();
    }

    // ---- events, books

    public int event(int what, int m) {
        if (what == -1) {
            events.clear();
            return 0;
        }
        if (what < -1 || what > 4 || (what == 0 && !isElement(m)) || (what == 3 && m != 0 && m != 1)) {
            return NONE;
        }
        if ((what == 1 || what == 2 || what == 4) && (m < 0 || m > 3)) {
            return BAD;
        }
        if (events.size() == 8) {
            return FULL;
        }
        events.add(new int[] {what, m});
        return events.size();
    }

    public int after(int side, int what) {
        if (!isSide(side) || what < 0 || what > 2) {
            return NONE;
        }
        Model later = copy();
        for (int[] row : events) {
            later.happen(row[0], row[1]);
        }
        List<int[]> rows = later.ideal(side);
        return what == 0 ? rows.size() : what == 2 ? later.generators.size() : rows.isEmpty() ? -5 : later.leadOf(rows.get(0));
    }

    private void happen(int what, int m) {
        if (what == 0) {
            generate(m);
        } else if (what == 3) {
            order(m);
        } else if (what == 4 && m < generators.size()) {
            generators.remove(m);
        } else if (what != 4 && m < n) {
            int[] letter = unit(1 << m);
            generators.replaceAll(g -> what == 1 ? times(letter, g) : times(g, letter));
        }
    }

    public int book(int spot, int v) {
        if (spot == -1) {
            bookRows.clear();
            return 0;
        }
        if (spot < 0 || !isElement(spot / 100) || !isPlace(spot % 100)) {
            return NONE;
        }
        if (v < 0 || v > 6) {
            return BAD;
        }
        if (bookRows.size() == 8) {
            return FULL;
        }
        bookRows.add(new int[] {spot, v});
        return bookRows.size();
    }

    public int looked() {
        for (int i = 0; i < bookRows.size(); i++) {
            int[] row = bookRows.get(i);
            if (of(row[0] / 100, row[0] % 100) != row[1]) {
                return i;
            }
        }
        return -5;
    }

    // ---- judging, the image, tapes

    public int judge(int element, int tape, int i) {
        if (!isElement(element) || !isTape(tape)) {
            return NONE;
        }
        if (tapes[tape] == null) {
            return 100;
        }
        if (!(tapes[tape] instanceof byte[])) {
            return -12;
        }
        byte[] row = (byte[]) tapes[tape];
        for (int place = 0; place < 1 << n; place++) {
            long at = (long) i + place;
            if (i < 0 || at >= row.length) {
                return 100 + place;
            }
            if (row[(int) at] != elements[element][place]) {
                return place;
            }
        }
        return -5;
    }

    public int image() {
        kept = copy();
        return generators.size();
    }

    public int undo() {
        if (kept == null) {
            return STATE;
        }
        Model from = kept.copy();
        n = from.n;
        p = from.p;
        kind = from.kind;
        elements = from.elements;
        generators = from.generators;
        events = from.events;
        bookRows = from.bookRows;
        return generators.size();
    }

    private Model copy() {
        Model other = new Model();
        other.n = n;
        other.p = p;
        other.kind = kind;
        other.elements = new int[6][];
        for (int i = 0; i < 6; i++) {
            other.elements[i] = elements[i].clone();
        }
        for (int[] generator : generators) {
            other.generators.add(generator.clone());
        }
        other.events.addAll(events);
        other.bookRows.addAll(bookRows);
        return other;
    }

    public int counted(int what) {
        return what == 0 ? events.size() : what == 1 ? bookRows.size() : what == 2 ? text.length() : BAD;
    }

    public int tape(int tape, int sort, int m) {
        if (!isTape(tape)) {
            return NONE;
        }
        if (sort == -1) {
            tapes[tape] = null;
            return 1;
        }
        if (sort < -1 || sort > 4 || m > 60) {
            return BAD;
        }
        if (m < 0) {
            return -14;
        }
        Class<?>[] sorts = {byte.class, short.class, int.class, long.class, boolean.class};
        tapes[tape] = Array.newInstance(sorts[sort], m);
        return 1;
    }

    public int item(int tape, int i, long v) {
        if (!isTape(tape)) {
            return NONE;
        }
        if (tapes[tape] == null) {
            return -11;
        }
        if (i < 0 || i >= Array.getLength(tapes[tape])) {
            return -13;
        }
        Object row = tapes[tape];
        if (row instanceof byte[]) {
            ((byte[]) row)[i] = (byte) v;
        } else if (row instanceof short[]) {
            ((short[]) row)[i] = (short) v;
        } else if (row instanceof int[]) {
            ((int[]) row)[i] = (int) v;
        } else if (row instanceof long[]) {
            ((long[]) row)[i] = v;
        } else {
            ((boolean[]) row)[i] = v != 0;
        }
        return 1;
    }

    public long peek(int tape, int i) {
        if (!isTape(tape) || tapes[tape] == null || i < 0 || i >= Array.getLength(tapes[tape])) {
            return NO;
        }
        Object item = Array.get(tapes[tape], i);
        return item instanceof Boolean ? ((Boolean) item ? 1 : 0) : ((Number) item).longValue();
    }

    public int shift(int tape, int i, int other, int j, int m) {
        if (!isTape(tape) || !isTape(other)) {
            return NONE;
        }
        if (tapes[tape] == null || tapes[other] == null) {
            return -11;
        }
        if (tapes[tape].getClass() != tapes[other].getClass()) {
            return -12;
        }
        if (m < 0 || i < 0 || j < 0 || (long) i + m > Array.getLength(tapes[tape])
                || (long) j + m > Array.getLength(tapes[other])) {
            return -13;
        }
        System.arraycopy(tapes[tape], i, tapes[other], j, m);
        return m;
    }

    // ---- what there is

    private static boolean isElement(int element) {
        return element >= 0 && element <= 5;
    }

    private boolean isPlace(int place) {
        return place >= 0 && place < 1 << n;
    }

    private static boolean isSide(int side) {
        return side >= 0 && side <= 2;
    }

    private static boolean isTape(int tape) {
        return tape >= 0 && tape <= 5;
    }

    // ---- reckoning

    private int mod(long v) {
        return (int) (((v % p) + p) % p);
    }

    private int put(int k, int[] x) {
        elements[k] = x;
        int found = 0;
        for (int v : x) {
            found += v == 0 ? 0 : 1;
        }
        return found;
    }

    private static List<Integer> lettersOf(int place) {
        List<Integer> letters = new ArrayList<>();
        for (int letter = 0; letter < 4; letter++) {
            if ((place >> letter & 1) == 1) {
                letters.add(letter);
            }
        }
        return letters;
    }

    /** By changing neighbours until the letters stand in order: each change turns the sign; 0: a letter twice. */
    private static int signOf(List<Integer> letters) {
        List<Integer> row = new ArrayList<>(letters);
        int sign = 1;
        for (int round = 0; round < row.size(); round++) {
            for (int i = 0; i + 1 < row.size(); i++) {
                if (row.get(i) > row.get(i + 1)) {
                    row.add(i, row.remove(i + 1));
                    sign = -sign;
                }
            }
        }
        for (int i = 0; i + 1 < row.size(); i++) {
            if (row.get(i).intValue() == row.get(i + 1).intValue()) {
                return 0;
            }
        }
        return sign;
    }

    private static int sign(int a, int b) {
        List<Integer> letters = lettersOf(a);
        letters.addAll(lettersOf(b));
        return signOf(letters);
    }

    private static final int[][] SIGNS = new int[16][16];

    static {
        for (int a = 0; a < 16; a++) {
            for (int b = 0; b < 16; b++) {
                SIGNS[a][b] = sign(a, b);
            }
        }
    }

    private int[] unit(int place) {
        int[] x = new int[1 << n];
        x[place] = 1;
        return x;
    }

    private int[] times(int[] x, int[] y) {
        int[] z = new int[x.length];
        for (int a = 0; a < x.length; a++) {
            for (int b = 0; b < x.length; b++) {
                if (x[a] != 0 && y[b] != 0 && SIGNS[a][b] != 0) {
                    z[a | b] = mod(z[a | b] + SIGNS[a][b] * x[a] * y[b]);
                }
            }
        }
        return z;
    }

    private List<Integer> placesInOrder(int width) {
        List<Integer> all = new ArrayList<>();
        for (int place = 0; place < width; place++) {
            all.add(place);
        }
        if (kind == 1 && width == 1 << n) {
            all.sort(Comparator.comparing((Integer place) -> lettersOf(place).size()).thenComparing(place -> place));
        }
        return all;
    }

    private int leadOf(int[] x) {
        for (int place : placesInOrder(x.length)) {
            if (x[place] != 0) {
                return place;
            }
        }
        return -5;
    }

    private int inverse(int v) {
        int power = 1;
        for (int i = 0; i < p - 2; i++) {
            power = mod((long) power * v);
        }
        return power;
    }

    /** Gauss and Jordan, column by column in the order given, in place; the rows that are not 0, by their leads. */
    private List<int[]> eliminate(List<int[]> given, List<Integer> columns) {
        List<int[]> rows = new ArrayList<>();
        for (int[] row : given) {
            rows.add(row.clone());
        }
        int top = 0;
        for (int column : columns) {
            int found = top;
            while (found < rows.size() && rows.get(found)[column] == 0) {
                found++;
            }
            if (found == rows.size()) {
                continue;
            }
            java.util.Collections.swap(rows, top, found);
            int[] pivot = rows.get(top);
            int inverse = inverse(pivot[column]);
            for (int i = 0; i < pivot.length; i++) {
                pivot[i] = mod((long) pivot[i] * inverse);
            }
            for (int[] row : rows) {
                int factor = row[column];
                if (row != pivot && factor != 0) {
                    for (int i = 0; i < row.length; i++) {
                        row[i] = mod(row[i] - (long) factor * pivot[i]);
                    }
                }
            }
            top++;
        }
        return new ArrayList<>(rows.subList(0, top));
    }

    private List<int[]> echelon(List<int[]> rows) {
        return rows.isEmpty() ? new ArrayList<>() : eliminate(rows, placesInOrder(rows.get(0).length));
    }

    private int rankOf(List<int[]> rows) {
        return echelon(rows).size();
    }

    /** All c with c0 images0 + c1 images1 + .. = 0: each image carries along which it is. */
    private List<int[]> kernel(List<int[]> images) {
        if (images.isEmpty()) {
            return new ArrayList<>();
        }
        int width = images.get(0).length;
        List<int[]> rows = new ArrayList<>();
        for (int i = 0; i < images.size(); i++) {
            int[] row = java.util.Arrays.copyOf(images.get(i), width + images.size());
            row[width + i] = 1;
            rows.add(row);
        }
        List<Integer> columns = new ArrayList<>();
        for (int column = 0; column < width + images.size(); column++) {
            columns.add(column);
        }
        List<int[]> found = new ArrayList<>();
        for (int[] row : eliminate(rows, columns)) {
            boolean nought = true;
            for (int column = 0; column < width; column++) {
                nought = nought && row[column] == 0;
            }
            if (nought) {
                found.add(java.util.Arrays.copyOfRange(row, width, row.length));
            }
        }
        return found;
    }

    private List<int[]> ideal(int side) {
        List<int[]> all = new ArrayList<>();
        for (int[] generator : generators) {
            for (int a = 0; a < 1 << n; a++) {
                int[] first = side == 1 ? times(generator, unit(a)) : times(unit(a), generator);
                for (int b = 0; b < (side == 2 ? 1 << n : 1); b++) {
                    all.add(times(first, unit(b)));
                }
            }
        }
        return echelon(all);
    }

    private int[] restOf(int side, int[] x) {
        int[] rest = x.clone();
        for (int[] row : ideal(side)) {
            int often = rest[leadOf(row)];
            for (int i = 0; i < rest.length; i++) {
                rest[i] = mod(rest[i] - (long) often * row[i]);
            }
        }
        return rest;
    }

    private boolean isWithin(int side, int[] x) {
        List<int[]> rows = ideal(side);
        int rank = rows.size();
        rows.add(x);
        return rankOf(rows) == rank;
    }

    private List<int[]> annihilatorOf(List<int[]> ideal, int hand) {
        int width = 1 << n;
        List<int[]> images = new ArrayList<>();
        for (int a = 0; a < width; a++) {
            int[] image = new int[width * ideal.size()];
            for (int i = 0; i < ideal.size(); i++) {
                int[] product = hand == 0 ? times(unit(a), ideal.get(i)) : times(ideal.get(i), unit(a));
                System.arraycopy(product, 0, image, width * i, width);
            }
            images.add(image);
        }
        return echelon(kernel(images));
    }
}
