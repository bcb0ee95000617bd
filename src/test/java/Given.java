/** Matrices that the tests begin with. */
final class Given {
    /** Too far out for any argument that counts something. */
    static final int LEAST = Integer.MIN_VALUE;
    static final int MOST = Integer.MAX_VALUE;

    private Given() {
    }

    /** Of zeros. */
    static NormalForms sized(int rows, int columns) {
        NormalForms x = new NormalForms();
        x.size(rows, columns);
        return x;
    }

    /** A square matrix of numbers, row by row. */
    static NormalForms ofNumbers(int side, int... numbers) {
        NormalForms x = sized(side, side);
        for (int k = 0; k < numbers.length; k++) {
            x.put(k / side, k % side, 0, numbers[k]);
        }
        return x;
    }

    /** The same number at the first (i, i). */
    static NormalForms diagonal(int rows, int columns, int length, int number) {
        NormalForms x = sized(rows, columns);
        for (int i = 0; i < length; i++) {
            x.put(i, i, 0, number);
        }
        return x;
    }

    static void polynomial(NormalForms x, int i, int j, int... numbers) {
        for (int power = 0; power < numbers.length; power++) {
            x.put(i, j, power, numbers[power]);
        }
    }

    /** Makes all three, as far as they can be made. */
    static NormalForms withForms(NormalForms x) {
        for (int form = 0; form < 3; form++) {
            x.make(form);
        }
        return x;
    }
}
