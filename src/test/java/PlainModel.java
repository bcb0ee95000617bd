import java.util.ArrayList;
import java.util.Arrays;
import java.util.List;

/**
 * The document's words reckoned anew, in other ways than the class does: the forms by linear
 * algebra over numbers, by elimination and by interpolation, the roots by trying every number,
 * the blocks by ranks of powers. Polynomials are arrays without zeros at their end.
 */
final class PlainModel {
    static final int P = 32003;
    private static final long[] ZERO = {};

    private int rows = 0;
    private int columns = 0;
    private long[][][] entries = new long[0][0][4];
    private final long[][][][] forms = new long[3][][][];
    private List<Integer> roots = null;

    void size(int newRows, int newColumns) {
        if (newRows < 0 || newColumns < 0) {
            throw new NegativeArraySizeException("model");
        }
        if (newRows > 4 || newColumns > 4) {
            throw new IllegalArgumentException("model");
        }
        rows = newRows;
        columns = newColumns;
        entries = new long[rows][columns][4];
        forget();
    }

    boolean put(int i, int j, int power, int v) {
        needCell(i, j);
        needPower(power);
        long number = Math.floorMod(v, P);
        if (entries[i][j][power] == number) {
            return false;
        }
        entries[i][j][power] = number;
        forget();
        return true;
    }

    int entry(int i, int j, int power) {
        needCell(i, j);
        needPower(power);
        return (int) entries[i][j][power];
    }

    int make(int form) {
        needForm(form);
        if (form == 2) {
            forms[2] = inverse();
            return forms[2] == null ? -1 : rows;
        }
        forms[form] = form == 0 ? hermite() : smith();
        return rank();
    }

    int degree(int form, int i, int j) {
        return formEntry(form, i, j).length - 1;
    }

    int at(int form, int i, int j, int power) {
        return number(formEntry(form, i, j), power);
    }

    /** A minor's degree is at most 12: one of 13 points is no root of it. */
    int rank() {
        int best = 0;
        for (int t = 0; t < 13; t++) {
            best = Math.max(best, rankOf(valuesAt(t)));
        }
        return best;
    }

    int determinant(int power) {
        needSquare();
        return number(determinantOf(polynomials(), 0, new boolean[rows]), power);
    }

    int characteristic(int power) {
        needSquare();
        return number(characteristicOf(numbers()), power);
    }

    int minimal(int power) {
        needSquare();
        return number(minimalOf(numbers()), power);
    }

    int root(int k) {
        needSquare();
        List<Integer> all = allRoots();
        return k < 0 || k >= all.size() ? -1 : all.get(k);
    }

    int blocks(int k, int n) {
        needSquare();
        List<Integer> all = allRoots();
        if (k < 0 || k >= all.size() || n < 1) {
            throw new IllegalArgumentException("model");
        }
        long[][] less = numbers();
        for (int i = 0; i < rows; i++) {
            less[i][i] = Math.floorMod(less[i][i] - all.get(k), P);
        }
        // From the power of 4 on all have the same rank.
        int size = Math.min(n, 6);
        return rankOf(powerOf(less, size - 1)) - 2 * rankOf(powerOf(less, size)) + rankOf(powerOf(less, size + 1));
    }

    int count(int which) {
        switch (which) {
            case 0: return rows;
            case 1: return columns;
            case 2: return (forms[0] == null ? 0 : 1) + (forms[1] == null ? 0 : 1) + (forms[2] == null ? 0 : 1);
            default: return -1;
        }
    }

    private void forget() {
        Arrays.fill(forms, null);
        roots = null;
    }

    private void needCell(int i, int j) {
        if (i < 0 || i >= rows || j < 0 || j >= columns) {
            throw new ArrayIndexOutOfBoundsException("model");
        }
    }

    private void needPower(int power) {
        if (power < 0 || power > 3) {
            throw new ArrayIndexOutOfBoundsException("model");
        }
    }

    private void needForm(int form) {
        if (form < 0 || form > 2) {
            throw new IllegalArgumentException("model");
        }
    }

    private void needSquare() {
        if (rows != columns) {
            throw new IllegalStateException("model");
        }
    }

    private long[] formEntry(int form, int i, int j) {
        needForm(form);
        if (forms[form] == null) {
            throw new IllegalStateException("model");
        }
        needCell(i, j);
        return forms[form][i][j];
    }

    private long[][][] polynomials() {
        long[][][] result = new long[rows][columns][];
        for (int i = 0; i < rows; i++) {
            for (int j = 0; j < columns; j++) {
                result[i][j] = trimmed(entries[i][j]);
            }
        }
        return result;
    }

    private long[][] numbers() {
        return valuesAt(0);
    }

    private long[][] valuesAt(long t) {
        long[][] result = new long[rows][columns];
        for (int i = 0; i < rows; i++) {
            for (int j = 0; j < columns; j++) {
                result[i][j] = valueAt(entries[i][j], t);
            }
        }
        return result;
    }

    private List<Integer> allRoots() {
        if (roots == null) {
            long[] polynomial = characteristicOf(numbers());
            roots = new ArrayList<>();
            for (int t = 0; t < P; t++) {
                if (valueAt(polynomial, t) == 0) {
                    roots.add(t);
                }
            }
        }
        return roots;
    }

    // The forms.

    /**
     * All x^k times a row, k up to 24, span numbers' rows; their reduced echelon form, by columns
     * and then by falling powers, holds the Hermite rows: in each column the last pivot's.
     */
    private long[][][] hermite() {
        int shifts = 25;
        int width = shifts + 3;
        long[][] all = new long[rows * shifts][columns * width];
        for (int i = 0; i < rows; i++) {
            for (int k = 0; k < shifts; k++) {
                for (int j = 0; j < columns; j++) {
                    for (int power = 0; power < 4; power++) {
                        all[i * shifts + k][j * width + width - 1 - power - k] = entries[i][j][power];
                    }
                }
            }
        }
        int[] pivots = reduce(all);
        long[][][] result = new long[rows][columns][];
        for (long[][] row : result) {
            Arrays.fill(row, ZERO);
        }
        int next = 0;
        for (int r = 0; r < pivots.length; r++) {
            boolean last = r + 1 == pivots.length || pivots[r + 1] / width != pivots[r] / width;
            if (last) {
                for (int j = 0; j < columns; j++) {
                    long[] polynomial = new long[width];
                    for (int power = 0; power < width; power++) {
                        polynomial[power] = all[r][j * width + width - 1 - power];
                    }
                    result[next][j] = trimmed(polynomial);
                }
                next++;
            }
        }
        return result;
    }

    private long[][][] smith() {
        long[][][] m = polynomials();
        for (int k = 0; k < Math.min(rows, columns); k++) {
            while (bringLeast(m, k) && !cleared(m, k)) {
                continue;
            }
            if (m[k][k].length > 0) {
                m[k][k] = scaled(m[k][k], inverseOf(m[k][k][m[k][k].length - 1]));
            }
        }
        return m;
    }

    /** Brings an entry of the least degree to (k, k), if there is one that isn't 0. */
    private boolean bringLeast(long[][][] m, int k) {
        int row = -1;
        int column = -1;
        for (int i = k; i < rows; i++) {
            for (int j = k; j < columns; j++) {
                if (m[i][j].length > 0 && (row < 0 || m[i][j].length < m[row][column].length)) {
                    row = i;
                    column = j;
                }
            }
        }
        if (row < 0) {
            return false;
        }
        long[][] rowHeld = m[row];
        m[row] = m[k];
        m[k] = rowHeld;
        for (long[][] line : m) {
            long[] held = line[column];
            line[column] = line[k];
            line[k] = held;
        }
        return true;
    }

    /** One round with the pivot at (k, k): whether all else in its row and column is 0 and it divides the rest. */
    private boolean cleared(long[][][] m, int k) {
        boolean done = true;
        for (int i = k + 1; i < rows; i++) {
            addRow(m, i, k, quotient(m[i][k], m[k][k]));
            done &= m[i][k].length == 0;
        }
        for (int j = k + 1; j < columns; j++) {
            long[] q = quotient(m[k][j], m[k][k]);
            for (int i = 0; i < rows; i++) {
                m[i][j] = minus(m[i][j], times(q, m[i][k]));
            }
            done &= m[k][j].length == 0;
        }
        for (int i = k + 1; i < rows && done; i++) {
            for (int j = k + 1; j < columns && done; j++) {
                long[] q = quotient(m[i][j], m[k][k]);
                if (minus(m[i][j], times(q, m[k][k])).length > 0) {
                    addRow(m, k, i, new long[] {P - 1});
                    done = false;
                }
            }
        }
        return done;
    }

    private void addRow(long[][][] m, int target, int source, long[] q) {
        for (int j = 0; j < columns; j++) {
            m[target][j] = minus(m[target][j], times(q, m[source][j]));
        }
    }

    /** By interpolation: its entries are minors of 3 rows (times a number), of degrees up to 9. */
    private long[][][] inverse() {
        if (rows != columns || determinantOf(polynomials(), 0, new boolean[rows]).length != 1) {
            return null;
        }
        int points = 10;
        long[][][] values = new long[points][][];
        for (int t = 0; t < points; t++) {
            values[t] = inverseOf(valuesAt(t));
        }
        long[][][] result = new long[rows][rows][];
        for (int i = 0; i < rows; i++) {
            for (int j = 0; j < rows; j++) {
                long[] sum = ZERO;
                for (int t = 0; t < points; t++) {
                    long[] one = {values[t][i][j]};
                    for (int s = 0; s < points; s++) {
                        if (s != t) {
                            one = scaled(times(one, new long[] {P - s, 1}), inverseOf(Math.floorMod(t - s, P)));
                        }
                    }
                    sum = minus(sum, scaled(one, P - 1));
                }
                result[i][j] = sum;
            }
        }
        return result;
    }

    private static long[] determinantOf(long[][][] m, int row, boolean[] used) {
        if (row == m.length) {
            return new long[] {1};
        }
        long[] sum = ZERO;
        int before = 0;
        for (int j = 0; j < m.length; j++) {
            if (!used[j]) {
                used[j] = true;
                long[] part = times(m[row][j], determinantOf(m, row + 1, used));
                sum = minus(sum, scaled(part, before % 2 == 0 ? P - 1 : 1));
                used[j] = false;
                before++;
            }
        }
        return sum;
    }

    // Of matrices of numbers.

    /** Faddeev's and LeVerrier's way. */
    private static long[] characteristicOf(long[][] a) {
        int n = a.length;
        long[] c = new long[n + 1];
        c[n] = 1;
        long[][] m = new long[n][n];
        for (int k = 1; k <= n; k++) {
            m = product(a, m);
            for (int i = 0; i < n; i++) {
                m[i][i] = (m[i][i] + c[n - k + 1]) % P;
            }
            long[][] am = product(a, m);
            long trace = 0;
            for (int i = 0; i < n; i++) {
                trace += am[i][i];
            }
            c[n - k] = Math.floorMod(-(trace % P) * inverseOf(k), P);
        }
        return c;
    }

    /** The first power that is a sum of lower ones times numbers. */
    private static long[] minimalOf(long[][] a) {
        int n = a.length;
        for (int d = 0; d <= n; d++) {
            long[][] equations = new long[n * n][d + 1];
            for (int k = 0; k <= d; k++) {
                long[][] power = powerOf(a, k);
                for (int e = 0; e < n * n; e++) {
                    equations[e][k] = power[e / n][e % n];
                }
            }
            int[] pivots = reduce(equations);
            if (pivots.length <= d) {
                long[] result = new long[d + 1];
                result[d] = 1;
                for (int k = 0; k < d; k++) {
                    result[k] = (P - equations[k][d]) % P;
                }
                return result;
            }
        }
        throw new AssertionError("every matrix is a root of its characteristic polynomial");
    }

    private static int rankOf(long[][] a) {
        long[][] copy = new long[a.length][];
        for (int i = 0; i < a.length; i++) {
            copy[i] = a[i].clone();
        }
        return reduce(copy).length;
    }

    /** Makes the reduced echelon form, and tells the pivots' columns. */
    private static int[] reduce(long[][] a) {
        int width = a.length == 0 ? 0 : a[0].length;
        int[] pivots = new int[a.length];
        int done = 0;
        for (int c = 0; c < width && done < a.length; c++) {
            int r = done;
            while (r < a.length && a[r][c] == 0) {
                r++;
            }
            if (r == a.length) {
                continue;
            }
            long[] held = a[r];
            a[r] = a[done];
            a[done] = held;
            long factor = inverseOf(held[c]);
            for (int j = 0; j < width; j++) {
                held[j] = held[j] * factor % P;
            }
            for (int i = 0; i < a.length; i++) {
                if (i != done && a[i][c] != 0) {
                    long less = P - a[i][c];
                    for (int j = c; j < width; j++) {
                        a[i][j] = (a[i][j] + less * held[j]) % P;
                    }
                }
            }
            pivots[done++] = c;
        }
        return Arrays.copyOf(pivots, done);
    }

    private static long[][] inverseOf(long[][] a) {
        int n = a.length;
        long[][] wide = new long[n][2 * n];
        for (int i = 0; i < n; i++) {
            System.arraycopy(a[i], 0, wide[i], 0, n);
            wide[i][n + i] = 1;
        }
        reduce(wide);
        long[][] result = new long[n][];
        for (int i = 0; i < n; i++) {
            result[i] = Arrays.copyOfRange(wide[i], n, 2 * n);
        }
        return result;
    }

    private static long[][] powerOf(long[][] a, int exponent) {
        long[][] result = new long[a.length][a.length];
        for (int i = 0; i < a.length; i++) {
            result[i][i] = 1;
        }
        for (int k = 0; k < exponent; k++) {
            result = product(result, a);
        }
        return result;
    }

    private static long[][] product(long[][] a, long[][] b) {
        int n = a.length;
        long[][] result = new long[n][n];
        for (int i = 0; i < n; i++) {
            for (int j = 0; j < n; j++) {
                for (int k = 0; k < n; k++) {
                    result[i][j] = (result[i][j] + a[i][k] * b[k][j]) % P;
                }
            }
        }
        return result;
    }

    // Of polynomials and numbers.

    static int number(long[] polynomial, int power) {
        return power < 0 || power >= polynomial.length ? 0 : (int) polynomial[power];
    }

    private static long valueAt(long[] polynomial, long t) {
        long value = 0;
        for (int power = polynomial.length - 1; power >= 0; power--) {
            value = (value * t + polynomial[power]) % P;
        }
        return value;
    }

    static long[] trimmed(long[] polynomial) {
        int length = polynomial.length;
        while (length > 0 && polynomial[length - 1] == 0) {
            length--;
        }
        return Arrays.copyOf(polynomial, length);
    }

    static long[] minus(long[] a, long[] b) {
        long[] result = new long[Math.max(a.length, b.length)];
        for (int power = 0; power < result.length; power++) {
            result[power] = Math.floorMod(number(a, power) - number(b, power), P);
        }
        return trimmed(result);
    }

    static long[] times(long[] a, long[] b) {
        if (a.length == 0 || b.length == 0) {
            return ZERO;
        }
        long[] result = new long[a.length + b.length - 1];
        for (int i = 0; i < a.length; i++) {
            for (int j = 0; j < b.length; j++) {
                result[i + j] = (result[i + j] + a[i] * b[j]) % P;
            }
        }
        return trimmed(result);
    }

    static long[] scaled(long[] a, long factor) {
        return times(a, trimmed(new long[] {factor % P}));
    }

    private static long[] quotient(long[] whole, long[] divisor) {
        long[] rest = whole.clone();
        long[] result = new long[Math.max(0, whole.length - divisor.length + 1)];
        long inverse = inverseOf(divisor[divisor.length - 1]);
        for (int shift = result.length - 1; shift >= 0; shift--) {
            long factor = rest[shift + divisor.length - 1] * inverse % P;
            result[shift] = factor;
            for (int power = 0; power < divisor.length; power++) {
                rest[shift + power] = Math.floorMod(rest[shift + power] - factor * divisor[power], P);
            }
        }
        return trimmed(result);
    }

    /** By Euclid's way, not by powers. */
    static long inverseOf(long number) {
        long high = P;
        long low = Math.floorMod(number, P);
        long ofHigh = 0;
        long ofLow = 1;
        while (low != 0) {
            long q = high / low;
            long rest = high - q * low;
            long ofRest = ofHigh - q * ofLow;
            high = low;
            ofHigh = ofLow;
            low = rest;
            ofLow = ofRest;
        }
        return Math.floorMod(ofHigh, P);
    }
}
