/**
 * Every sentence of the document that names a boundary case: quoted, with the promise's number, and
 * asked on both sides of the boundary. What a refused call leaves behind is asked in RefusalsTest.
 */
public final class BoundariesTest {
    private static final int LEAST = Given.LEAST;
    private static final int MOST = Given.MOST;
    private static final int P = 32003;
    private static final Class<NegativeArraySizeException> NEGATIVE = NegativeArraySizeException.class;
    private static final Class<ArrayIndexOutOfBoundsException> INDEX = ArrayIndexOutOfBoundsException.class;
    private static final Class<IllegalArgumentException> ARGUMENT = IllegalArgumentException.class;
    private static final Class<IllegalStateException> STATE = IllegalStateException.class;

    private static final Check check = new Check();
    private static String sentence = "";

    public static void main(String[] args) {
        promise1();
        promise2Sizes();
        promise2EntriesAndForms();
        promise2Refuses();
        promise3Modulo();
        promise3Another();
        promise3Forms();
        promises3And4Refuse();
        promise5Rank();
        promise5Inverse();
        promise5NoInverse();
        promise5Refuses();
        promise5MadeAgain();
        promises6And7Refuse();
        promises6And7Order();
        promise6Degrees();
        promise7Powers();
        hermiteRows();
        hermiteDegrees();
        smithDiagonal();
        promise8();
        promises9To13NotSquare();
        promise9();
        promise10();
        promise11();
        promise12();
        promises10To13AfterPut();
        promise13Refuses();
        promise13Sizes();
        promise14();
        lastCall();
        check.finish();
    }

    private static void quote(String promise, String words) {
        sentence = promise + " \"" + words + "\": ";
    }

    private static void is(long due, String what, Check.Call call) {
        check.answers(sentence + what, call, due);
    }

    private static void refuses(Class<? extends RuntimeException> due, String what, Check.Call call) {
        check.throwing(sentence + what, due, call);
    }

    private static String sizes(int rows, int columns) {
        return rows + " by " + columns + ": ";
    }

    /** Something to do with every size that a matrix may have. */
    private interface OfSize {
        void ask(int rows, int columns);
    }

    private static void forAllSizes(OfSize asked) {
        for (int rows = 0; rows <= 4; rows++) {
            for (int columns = 0; columns <= 4; columns++) {
                asked.ask(rows, columns);
            }
        }
    }

    private static void promise1() {
        quote("promise 1", "No rows, no columns.");
        Given.ofNumbers(1, 5).make(0);
        NormalForms x = new NormalForms();
        is(0, "rows", () -> x.count(0));
        is(0, "columns", () -> x.count(1));
        is(0, "forms", () -> x.count(2));
        refuses(INDEX, "put(0, 0, 0, 1)", () -> Check.counted(x.put(0, 0, 0, 1)));
        refuses(INDEX, "entry(0, 0, 0)", () -> x.entry(0, 0, 0));
        for (int form = 0; form < 3; form++) {
            int f = form;
            refuses(STATE, "degree of form " + f + ", not made", () -> x.degree(f, 0, 0));
            refuses(STATE, "at of form " + f + ", not made", () -> x.at(f, 0, 0, 0));
            is(0, "make(" + f + ")", () -> x.make(f));
            is(f + 1, "forms after it", () -> x.count(2));
            refuses(INDEX, "degree of form " + f, () -> x.degree(f, 0, 0));
            refuses(INDEX, "at of form " + f, () -> x.at(f, 0, 0, 0));
        }
        is(0, "rank", x::rank);
        is(1, "determinant(0)", () -> x.determinant(0));
        is(1, "characteristic(0)", () -> x.characteristic(0));
        is(1, "minimal(0)", () -> x.minimal(0));
        is(-1, "root(0)", () -> x.root(0));
        refuses(ARGUMENT, "blocks(0, 1)", () -> x.blocks(0, 1));
    }

    private static void promise2Sizes() {
        quote("promise 2", "The matrix has these sizes");
        forAllSizes((rows, columns) -> {
            NormalForms x = Given.sized(rows, columns);
            is(rows, sizes(rows, columns) + "rows", () -> x.count(0));
            is(columns, sizes(rows, columns) + "columns", () -> x.count(1));
            for (int i = 0; i < rows; i++) {
                for (int j = 0; j < columns; j++) {
                    int row = i;
                    int column = j;
                    is(1, sizes(rows, columns) + "put", () -> Check.counted(x.put(row, column, 3, 1)));
                }
            }
            refuses(INDEX, sizes(rows, columns) + "a row more", () -> x.entry(rows, 0, 0));
            refuses(INDEX, sizes(rows, columns) + "a column more", () -> x.entry(0, columns, 0));
        });
    }

    private static void promise2EntriesAndForms() {
        forAllSizes((rows, columns) -> forAllSizes((newRows, newColumns) -> {
            NormalForms x = Given.diagonal(rows, columns, Math.min(rows, columns), 7);
            if (rows > 0 && columns > 0) {
                x.put(rows - 1, columns - 1, 3, 9);
            }
            Given.withForms(x);
            x.rank();
            if (rows == columns) {
                x.root(0);
            }
            x.size(newRows, newColumns);
            String what = sizes(rows, columns) + "then " + sizes(newRows, newColumns);
            quote("promise 2", "no form is there");
            is(0, what + "forms", () -> x.count(2));
            for (int form = 0; form < 3; form++) {
                int f = form;
                refuses(STATE, what + "form " + f, () -> x.degree(f, 0, 0));
            }
            quote("promise 2", "all entries are 0");
            is(0, what + "rank", x::rank);
            for (int k = 0; k < newRows * newColumns * 4; k++) {
                int place = k;
                is(0, what + "entry", () -> x.entry(place / 4 / newColumns, place / 4 % newColumns, place % 4));
            }
            if (newRows == newColumns && newRows > 0) {
                is(0, what + "root", () -> x.root(0));
                is(newRows, what + "blocks", () -> x.blocks(0, 1));
                is(0, what + "determinant", () -> x.determinant(0));
            }
        }));
    }

    private static void promise2Refuses() {
        NormalForms x = Given.sized(2, 3);
        quote("promise 2", "NegativeArraySizeException: one is below 0.");
        int[][] below = {{-1, 0}, {0, -1}, {-1, -1}, {-1, 4}, {4, -1}, {LEAST, 0}, {0, LEAST}, {LEAST, LEAST}};
        for (int[] s : below) {
            refuses(NEGATIVE, "size(" + s[0] + ", " + s[1] + ")", () -> sizeOf(x, s));
        }
        quote("promise 2", "IllegalArgumentException: one is above 4.");
        int[][] above = {{5, 0}, {0, 5}, {5, 5}, {5, 4}, {4, 5}, {MOST, 0}, {0, MOST}, {MOST, MOST}};
        for (int[] s : above) {
            refuses(ARGUMENT, "size(" + s[0] + ", " + s[1] + ")", () -> sizeOf(x, s));
        }
        quote("promise 2", "Of several the one that stands first behind \"throws\" is thrown");
        int[][] both = {{-1, 5}, {5, -1}, {LEAST, MOST}, {MOST, LEAST}};
        for (int[] s : both) {
            refuses(NEGATIVE, "size(" + s[0] + ", " + s[1] + ")", () -> sizeOf(x, s));
        }
    }

    private static long sizeOf(NormalForms x, int[] s) {
        x.size(s[0], s[1]);
        return 0;
    }

    private static void promise3Modulo() {
        quote("promise 3", "The number at a power in an entry is v (modulo 32003)");
        int[][] due = {
            {1, 1}, {P - 1, P - 1}, {P, 0}, {P + 1, 1}, {2 * P - 1, P - 1}, {2 * P, 0},
            {-1, P - 1}, {1 - P, 1}, {-P, 0}, {-P - 1, P - 1}, {-2 * P, 0},
            {MOST, 18341}, {MOST - 18341, 0}, {LEAST, 13661}, {LEAST + 18342, 0}
        };
        for (int power = 0; power < 4; power++) {
            for (int[] d : due) {
                NormalForms x = Given.sized(2, 2);
                int p = power;
                is(d[1] == 0 ? 0 : 1, "put of " + d[0], () -> Check.counted(x.put(1, 0, p, d[0])));
                for (int k = 0; k < 16; k++) {
                    int place = k;
                    boolean there = k / 8 == 1 && k / 4 % 2 == 0 && k % 4 == p;
                    is(there ? d[1] : 0, "entry after put of " + d[0] + " at power " + p,
                            () -> x.entry(place / 8, place / 4 % 2, place % 4));
                }
            }
        }
    }

    private static void promise3Another() {
        quote("promise 3", "whether it is another one");
        NormalForms x = Given.sized(4, 4);
        for (int power = 0; power < 4; power++) {
            int p = power;
            is(0, "0 where 0 is", () -> Check.counted(x.put(3, 3, p, 0)));
            is(0, "32003 where 0 is", () -> Check.counted(x.put(3, 3, p, P)));
            is(1, "32002 where 0 is", () -> Check.counted(x.put(3, 3, p, P - 1)));
            is(0, "-1 where 32002 is", () -> Check.counted(x.put(3, 3, p, -1)));
            is(0, "64005 where 32002 is", () -> Check.counted(x.put(3, 3, p, 2 * P - 1)));
            is(1, "-2 where 32002 is", () -> Check.counted(x.put(3, 3, p, -2)));
            is(1, "-32003 where 32001 is", () -> Check.counted(x.put(3, 3, p, -P)));
        }
    }

    private static void promise3Forms() {
        for (int power = 0; power < 4; power++) {
            NormalForms x = Given.withForms(Given.ofNumbers(2, 1, 2, 3, 4));
            int p = power;
            int same = x.entry(0, 1, power);
            quote("promise 3", "if so no form is there any more");
            x.put(0, 1, p, same);
            x.put(0, 1, p, same - P);
            is(3, "forms after the same number at power " + p, () -> x.count(2));
            x.put(0, 1, p, same + 1);
            is(0, "forms after another number at power " + p, () -> x.count(2));
            x.put(0, 1, p, same);
            is(0, "forms after the old number again", () -> x.count(2));
            for (int form = 0; form < 3; form++) {
                int f = form;
                refuses(STATE, "form " + f, () -> x.degree(f, 0, 0));
                refuses(STATE, "form " + f, () -> x.at(f, 0, 0, 0));
            }
            // (1, 3; 3, 4) has an inverse, (1, 2 + x^p; 3, 4) has none.
            x.put(0, 1, p, same + 1);
            Given.withForms(x);
            is(p == 0 ? 3 : 2, "forms made of the changed matrix", () -> x.count(2));
        }
    }

    private static void promises3And4Refuse() {
        String words = "ArrayIndexOutOfBoundsException: there is no such row, column, or power (0 .. 3).";
        forAllSizes((rows, columns) -> {
            NormalForms x = Given.sized(rows, columns);
            int[][] wrong = {
                {-1, 0, 0}, {rows, 0, 0}, {0, -1, 0}, {0, columns, 0}, {LEAST, 0, 0}, {MOST, 0, 0}, {0, LEAST, 0},
                {0, MOST, 0}, {0, 0, -1}, {0, 0, 4}, {0, 0, LEAST}, {0, 0, MOST}, {rows, columns, 4}, {-1, -1, -1}
            };
            for (int[] w : wrong) {
                String call = "(" + w[0] + ", " + w[1] + ", " + w[2] + ")";
                quote("promise 3", words);
                refuses(INDEX, sizes(rows, columns) + "put" + call, () -> Check.counted(x.put(w[0], w[1], w[2], 1)));
                refuses(INDEX, sizes(rows, columns) + "put 0" + call, () -> Check.counted(x.put(w[0], w[1], w[2], 0)));
                quote("promise 4", words);
                refuses(INDEX, sizes(rows, columns) + "entry" + call, () -> x.entry(w[0], w[1], w[2]));
            }
            if (rows > 0 && columns > 0) {
                is(0, sizes(rows, columns) + "the last entry", () -> x.entry(rows - 1, columns - 1, 3));
            }
        });
    }

    private static void promise5Rank() {
        quote("promise 5", "A FORM is made: RANK");
        forAllSizes((rows, columns) -> {
            for (int rank = 0; rank <= Math.min(rows, columns); rank++) {
                NormalForms x = Given.diagonal(rows, columns, rank, 3);
                int due = rank;
                for (int form = 0; form < 2; form++) {
                    int f = form;
                    is(due, sizes(rows, columns) + "make(" + f + ")", () -> x.make(f));
                    is(due, sizes(rows, columns) + "make(" + f + ") again", () -> x.make(f));
                    is(f + 1, sizes(rows, columns) + "forms", () -> x.count(2));
                }
            }
        });
    }

    private static void promise5Inverse() {
        quote("promise 5", "of the INVERSE how many rows it has");
        for (int side = 0; side <= 4; side++) {
            NormalForms x = Given.diagonal(side, side, side, P - 1);
            int due = side;
            is(due, "make(2)", () -> x.make(2));
            is(1, "forms", () -> x.count(2));
            is(due, "make(2) again", () -> x.make(2));
            is(1, "forms after it", () -> x.count(2));
        }
        quote("promise 5", "there is one if the determinant is a number that isn't 0 (also of no rows)");
        is(0, "no rows", () -> Given.sized(0, 0).make(2));
        for (int number : new int[] {1, 2, P - 1}) {
            is(1, "determinant " + number, () -> Given.ofNumbers(1, number).make(2));
        }
        // (x^3 + 1, x^3; x^3, x^3 - 1) has the determinant -1.
        NormalForms x = Given.sized(2, 2);
        Given.polynomial(x, 0, 0, 1, 0, 0, 1);
        Given.polynomial(x, 0, 1, 0, 0, 0, 1);
        Given.polynomial(x, 1, 0, 0, 0, 0, 1);
        Given.polynomial(x, 1, 1, -1, 0, 0, 1);
        is(2, "powers of x, but a number as the determinant", () -> x.make(2));
        check.form(sentence, x, 2, 0, 0, 1, 0, 0, -1);
        check.form(sentence, x, 2, 0, 1, 0, 0, 0, 1);
        check.form(sentence, x, 2, 1, 0, 0, 0, 0, 1);
        check.form(sentence, x, 2, 1, 1, -1, 0, 0, -1);
    }

    private static void promise5NoInverse() {
        quote("promise 5",
                "or -1 if there is none (also if rows and columns aren't as many; that form isn't there then)");
        forAllSizes((rows, columns) -> {
            if (rows != columns) {
                noInverse(sizes(rows, columns), Given.diagonal(rows, columns, Math.min(rows, columns), 1));
            } else if (rows > 0) {
                noInverse(sizes(rows, columns) + "of zeros, ", Given.sized(rows, columns));
                noInverse(sizes(rows, columns) + "a row of zeros, ", Given.diagonal(rows, columns, rows - 1, 1));
                for (int power = 1; power < 4; power++) {
                    NormalForms x = Given.diagonal(rows, columns, rows, 1);
                    x.put(rows - 1, rows - 1, power, 1);
                    noInverse(sizes(rows, columns) + "the determinant isn't a number, ", x);
                }
            }
        });
    }

    private static void noInverse(String what, NormalForms x) {
        is(-1, what + "make(2)", () -> x.make(2));
        is(0, what + "forms", () -> x.count(2));
        refuses(STATE, what + "degree", () -> x.degree(2, 0, 0));
        refuses(STATE, what + "at", () -> x.at(2, 0, 0, 0));
        x.make(0);
        x.make(1);
        is(-1, what + "make(2) with both others there", () -> x.make(2));
        is(2, what + "both others stay", () -> x.count(2));
    }

    private static void promise5Refuses() {
        quote("promise 5", "IllegalArgumentException: there is no such form.");
        NormalForms x = Given.ofNumbers(1, 1);
        for (int form : new int[] {-1, 3, 4, LEAST, MOST}) {
            refuses(ARGUMENT, "make(" + form + ")", () -> x.make(form));
        }
        is(0, "forms", () -> x.count(2));
    }

    private static void promise5MadeAgain() {
        quote("promise 5", "A FORM is made");
        NormalForms x = Given.withForms(highest());
        for (int k = 0; k < 16; k++) {
            Given.polynomial(x, k / 4, k % 4, 0, 0, 0, 0);
        }
        x.put(2, 2, 1, 7);
        is(1, "Hermite, of x alone after four rows", () -> x.make(0));
        is(1, "Smith, of x alone after four rows", () -> x.make(1));
        is(-1, "inverse, of x alone after four rows", () -> x.make(2));
        for (int k = 0; k < 16; k++) {
            int i = k / 4;
            int j = k % 4;
            is(k == 2 ? 1 : -1, "Hermite, degree at (" + i + ", " + j + ")", () -> x.degree(0, i, j));
            is(k == 0 ? 1 : -1, "Smith, degree at (" + i + ", " + j + ")", () -> x.degree(1, i, j));
        }
        NormalForms y = Given.withForms(Given.ofNumbers(2, 1, 2, 3, 4));
        Given.polynomial(y, 0, 1, 0);
        Given.polynomial(y, 1, 0, 0);
        is(2, "inverse after another one", () -> y.make(2));
        check.form(sentence, y, 2, 0, 0, 1);
        check.form(sentence, y, 2, 0, 1);
        check.form(sentence, y, 2, 1, 0);
        check.form(sentence, y, 2, 1, 1, 8001);
    }

    private static void promises6And7Refuse() {
        forAllSizes((rows, columns) -> {
            NormalForms x = Given.withForms(Given.diagonal(rows, columns, Math.min(rows, columns), 2));
            int[][] wrong = {
                {-1, 0}, {rows, 0}, {0, -1}, {0, columns}, {rows, columns}, {LEAST, 0}, {MOST, 0}, {0, LEAST}, {0, MOST}
            };
            for (int form = 0; form < (rows == columns ? 3 : 2); form++) {
                int f = form;
                for (int[] w : wrong) {
                    String call = "(" + f + ", " + w[0] + ", " + w[1] + ")";
                    quote("promise 6", "throws .. ArrayIndexOutOfBoundsException");
                    refuses(INDEX, sizes(rows, columns) + "degree" + call, () -> x.degree(f, w[0], w[1]));
                    quote("promise 7", "throws .. ArrayIndexOutOfBoundsException");
                    for (int power : new int[] {-1, 0, 13}) {
                        refuses(INDEX, sizes(rows, columns) + "at" + call, () -> x.at(f, w[0], w[1], power));
                    }
                }
                if (rows > 0 && columns > 0) {
                    boolean corner = rows == columns;
                    is(corner ? 0 : -1, sizes(rows, columns) + "the last entry's degree",
                            () -> x.degree(f, rows - 1, columns - 1));
                }
            }
        });
        for (int absent = 0; absent < 3; absent++) {
            NormalForms x = Given.ofNumbers(2, 1, 2, 3, 4);
            int f = absent;
            x.make((f + 1) % 3);
            x.make((f + 2) % 3);
            quote("promise 6", "IllegalStateException: that form isn't there.");
            refuses(STATE, "form " + f + ", the others are", () -> x.degree(f, 1, 1));
            is(0, "form " + (f + 1) % 3, () -> x.degree((f + 1) % 3, 1, 1));
            quote("promise 7", "throws .. IllegalStateException");
            refuses(STATE, "form " + f + ", the others are", () -> x.at(f, 1, 1, 0));
            refuses(STATE, "form " + f + ", a power that no entry has", () -> x.at(f, 1, 1, -1));
            x.make(f);
            is(0, "form " + f + ", made at last", () -> x.degree(f, 1, 1));
        }
    }

    private static void promises6And7Order() {
        String words = "Of several the one that stands first behind \"throws\" is thrown";
        NormalForms none = Given.sized(2, 2);
        NormalForms all = Given.withForms(Given.ofNumbers(2, 1, 2, 3, 4));
        for (int form : new int[] {-1, 3, LEAST, MOST}) {
            for (NormalForms x : new NormalForms[] {none, all}) {
                quote("promise 6", words);
                refuses(ARGUMENT, "no such form " + form, () -> x.degree(form, 0, 0));
                refuses(ARGUMENT, "no such form " + form + ", no such row", () -> x.degree(form, 2, 0));
                refuses(ARGUMENT, "no such form " + form + ", no such column", () -> x.degree(form, 0, -1));
                quote("promise 7", words);
                refuses(ARGUMENT, "no such form " + form, () -> x.at(form, 0, 0, 0));
                refuses(ARGUMENT, "no such form " + form + ", no such row", () -> x.at(form, -1, 0, 0));
                refuses(ARGUMENT, "no such form " + form + ", no such column", () -> x.at(form, 0, 2, -1));
            }
        }
        for (int form = 0; form < 3; form++) {
            int f = form;
            quote("promise 6", words);
            refuses(STATE, "form " + f + " isn't there, no such row", () -> none.degree(f, 2, 0));
            refuses(STATE, "form " + f + " isn't there, no such column", () -> none.degree(f, 0, -1));
            quote("promise 7", words);
            refuses(STATE, "form " + f + " isn't there, no such row", () -> none.at(f, LEAST, 0, 0));
            refuses(STATE, "form " + f + " isn't there, no such column", () -> none.at(f, 0, MOST, -1));
        }
    }

    private static void promise6Degrees() {
        quote("promise 6", "0 has the degree -1");
        NormalForms zeros = Given.withForms(Given.sized(1, 2));
        for (int form = 0; form < 2; form++) {
            int f = form;
            is(-1, "of zeros, form " + f, () -> zeros.degree(f, 0, 0));
            is(-1, "of zeros, form " + f, () -> zeros.degree(f, 0, 1));
        }
        NormalForms numbers = Given.withForms(Given.ofNumbers(2, 5, 0, 0, 5));
        for (int form = 0; form < 3; form++) {
            int f = form;
            is(0, "a number's degree, form " + f, () -> numbers.degree(f, 1, 1));
            is(-1, "beside it, form " + f, () -> numbers.degree(f, 0, 1));
        }
        quote("promises 6 and 7", "(those of the forms may have higher ones)");
        NormalForms x = highest();
        Given.withForms(x);
        for (int form = 0; form < 2; form++) {
            check.form(sentence, x, form, 3, 3, 0, 0, 0, 0, 0, 0, 0, 0, 0, 0, 0, 0, 1);
        }
        check.form(sentence, x, 0, 0, 3, 0, 0, 0, 0, 0, 0, 0, 0, 0, 1);
        check.form(sentence, x, 0, 1, 3, 0, 0, 0, 0, 0, 0, -1);
        NormalForms y = Given.diagonal(4, 4, 4, 1);
        for (int i = 0; i < 3; i++) {
            y.put(i, i + 1, 3, 2);
        }
        y.make(2);
        check.form(sentence, y, 2, 0, 3, 0, 0, 0, 0, 0, 0, 0, 0, 0, -8);
    }

    /** (1, x^3, 0, 0; 0, 1, x^3, 0; 0, 0, 1, x^3; x^3, 0, 0, 0): the last row becomes (0, 0, 0, -x^12). */
    private static NormalForms highest() {
        NormalForms x = Given.diagonal(4, 4, 3, 1);
        for (int i = 0; i < 4; i++) {
            x.put(i, (i + 1) % 4, 3, 1);
        }
        return x;
    }

    private static void promise7Powers() {
        quote("promise 7", "0 for powers that it doesn't have");
        NormalForms x = Given.withForms(Given.ofNumbers(2, 5, 7, 0, 5));
        for (int form = 0; form < 3; form++) {
            for (int power : new int[] {-1, 1, 4, 12, 13, 14, 67, LEAST, MOST}) {
                int f = form;
                is(0, "form " + f + " at power " + power, () -> x.at(f, 0, 0, power));
                is(0, "form " + f + " of 0 at power " + power, () -> x.at(f, 1, 0, power));
            }
        }
        NormalForms y = highest();
        y.make(1);
        for (int power : new int[] {-1, 0, 11, 13, 14, LEAST, MOST}) {
            is(0, "x^12 at power " + power, () -> y.at(1, 3, 3, power));
        }
        is(1, "x^12 at power 12", () -> y.at(1, 3, 3, 12));
    }

    private static void hermiteRows() {
        quote("promises 5 to 7", "rows of zeros come last");
        NormalForms x = Given.sized(4, 2);
        x.put(1, 1, 0, 5);
        x.put(3, 0, 2, 5);
        x.make(0);
        check.form(sentence, x, 0, 0, 0, 0, 0, 1);
        check.form(sentence, x, 0, 0, 1);
        check.form(sentence, x, 0, 1, 0);
        check.form(sentence, x, 0, 1, 1, 1);
        for (int k = 4; k < 8; k++) {
            check.form(sentence, x, 0, k / 2, k % 2);
        }
        quote("promises 5 to 7", "lies further right than that of the row above");
        NormalForms y = Given.sized(3, 4);
        Given.polynomial(y, 0, 1, 0, 2);
        Given.polynomial(y, 0, 2, 2);
        Given.polynomial(y, 1, 1, 0, 1);
        Given.polynomial(y, 1, 3, 1);
        Given.polynomial(y, 2, 1, 0, 1);
        Given.polynomial(y, 2, 2, 1);
        y.make(0);
        // (0, x, 1, 0) and (0, x, 0, 1): their difference is (0, 0, 1, -1).
        check.form(sentence, y, 0, 0, 0);
        check.form(sentence, y, 0, 0, 1, 0, 1);
        check.form(sentence, y, 0, 0, 2);
        check.form(sentence, y, 0, 0, 3, 1);
        check.form(sentence, y, 0, 1, 1);
        check.form(sentence, y, 0, 1, 2, 1);
        check.form(sentence, y, 0, 1, 3, -1);
        for (int j = 0; j < 4; j++) {
            check.form(sentence, y, 0, 2, j);
        }
    }

    private static void hermiteDegrees() {
        quote("promises 5 to 7", "is MONIC, and all above it in its column have lower degrees");
        for (int above = 0; above < 4; above++) {
            for (int pivot = 0; pivot < 4; pivot++) {
                NormalForms x = Given.sized(2, 3);
                x.put(0, 0, 0, 3);
                x.put(0, 1, above, 3);
                x.put(1, 1, pivot, 2);
                x.put(1, 2, 0, 2);
                x.make(0);
                String what = sentence + "x^" + above + " above x^" + pivot;
                boolean stays = above < pivot;
                check.form(what, x, 0, 0, 0, 1);
                check.form(what, x, 0, 0, 1, stays ? monomial(above, 1) : new int[0]);
                check.form(what, x, 0, 0, 2, stays ? new int[0] : monomial(above - pivot, -1));
                check.form(what, x, 0, 1, 1, monomial(pivot, 1));
                check.form(what, x, 0, 1, 2, 1);
            }
        }
    }

    private static int[] monomial(int power, int number) {
        int[] numbers = new int[power + 1];
        numbers[power] = number;
        return numbers;
    }

    private static void smithDiagonal() {
        quote("promises 5 to 7", "all entries are 0 but those at (i, i), i below RANK; these are MONIC");
        forAllSizes((rows, columns) -> {
            for (int rank = 0; rank <= Math.min(rows, columns); rank++) {
                NormalForms x = Given.sized(rows, columns);
                for (int k = 0; k < rank; k++) {
                    x.put(rows - 1 - k, columns - 1 - k, 1, 2);
                }
                x.make(1);
                for (int k = 0; k < rows * columns; k++) {
                    int i = k / columns;
                    int j = k % columns;
                    boolean full = i == j && i < rank;
                    is(full ? 1 : -1, sizes(rows, columns) + "rank " + rank + ", degree", () -> x.degree(1, i, j));
                    is(full ? 1 : 0, sizes(rows, columns) + "rank " + rank + ", at power 1", () -> x.at(1, i, j, 1));
                }
            }
        });
        quote("promises 5 to 7", "each dividing the next");
        NormalForms x = Given.sized(3, 3);
        Given.polynomial(x, 0, 0, 0, 0, 1);
        Given.polynomial(x, 1, 1, 0, 1, 1);
        Given.polynomial(x, 2, 2, 0, 0, 0, 5);
        x.make(1);
        check.form(sentence, x, 1, 0, 0, 0, 1);
        check.form(sentence, x, 1, 1, 1, 0, 0, 1);
        check.form(sentence, x, 1, 2, 2, 0, 0, 0, 1, 1);
    }

    private static void promise8() {
        quote("promise 8", "RANK is the greatest number of rows and columns whose determinant isn't 0 (0 without one)");
        forAllSizes((rows, columns) -> {
            is(0, sizes(rows, columns) + "of zeros", () -> Given.sized(rows, columns).rank());
            int full = Math.min(rows, columns);
            for (int power = 0; power < 4; power++) {
                for (int length = 1; length <= full; length++) {
                    NormalForms x = Given.sized(rows, columns);
                    for (int k = 0; k < length; k++) {
                        x.put(rows - 1 - k, k, power, P - 1);
                    }
                    is(length, sizes(rows, columns) + "x^" + power, x::rank);
                }
            }
        });
        NormalForms x = Given.sized(2, 2);
        Given.polynomial(x, 0, 0, 0, 0, 0, 1);
        Given.polynomial(x, 0, 1, 0, 0, 1);
        Given.polynomial(x, 1, 0, 0, 0, 1);
        Given.polynomial(x, 1, 1, 0, 1);
        is(1, "x^3 times x less x^2 times x^2", x::rank);
        x.put(1, 1, 0, 1);
        is(2, "x^3 times x + 1 less x^2 times x^2", x::rank);
    }

    private static void promises9To13NotSquare() {
        forAllSizes((rows, columns) -> {
            NormalForms x = Given.sized(rows, columns);
            String what = sizes(rows, columns);
            if (rows == columns) {
                quote("promises 9 to 13", "there are not as many rows as columns");
                is(rows == 0 ? 1 : 0, what + "determinant", () -> x.determinant(0));
                is(1, what + "characteristic", () -> x.characteristic(rows));
                is(1, what + "minimal", () -> x.minimal(rows == 0 ? 0 : 1));
                is(rows == 0 ? -1 : 0, what + "root", () -> x.root(0));
                return;
            }
            for (int argument : new int[] {0, -1, 4, LEAST, MOST}) {
                quote("promise 9", "IllegalStateException: there are not as many rows as columns.");
                refuses(STATE, what + "determinant(" + argument + ")", () -> x.determinant(argument));
                quote("promise 10", "likewise");
                refuses(STATE, what + "characteristic(" + argument + ")", () -> x.characteristic(argument));
                quote("promise 11", "likewise");
                refuses(STATE, what + "minimal(" + argument + ")", () -> x.minimal(argument));
                quote("promise 12", "throws IllegalStateException");
                refuses(STATE, what + "root(" + argument + ")", () -> x.root(argument));
                quote("promise 13", "throws IllegalStateException, IllegalArgumentException");
                refuses(STATE, what + "blocks(" + argument + ", 1)", () -> x.blocks(argument, 1));
                refuses(STATE, what + "blocks(0, " + argument + ")", () -> x.blocks(0, argument));
            }
        });
    }

    /** Just these numbers, from power 0 on, and 0 at all other powers. */
    private static void polynomialIs(String what, OfPower number, int... numbers) {
        for (int power : new int[] {LEAST, -13, -1, 0, 1, 2, 3, 4, 5, 6, 7, 8, 9, 10, 11, 12, 13, 14, 255, 256, MOST}) {
            int due = power < 0 || power >= numbers.length ? 0 : Math.floorMod(numbers[power], P);
            is(due, what + " at power " + power, () -> number.at(power));
        }
    }

    private interface OfPower {
        int at(int power);
    }

    private static void promise9() {
        quote("promise 9", "The number at a power in the determinant; 0 for powers that it doesn't have.");
        polynomialIs("no rows", new NormalForms()::determinant, 1);
        polynomialIs("of zeros", Given.sized(4, 4)::determinant);
        polynomialIs("a number", Given.ofNumbers(1, -1)::determinant, -1);
        NormalForms x = Given.sized(4, 4);
        for (int i = 0; i < 4; i++) {
            Given.polynomial(x, i, 3 - i, 0, 0, 0, -1);
        }
        polynomialIs("the highest power", x::determinant, 0, 0, 0, 0, 0, 0, 0, 0, 0, 0, 0, 0, 1);
        x.put(0, 3, 0, 1);
        polynomialIs("a power less", x::determinant, 0, 0, 0, 0, 0, 0, 0, 0, 0, -1, 0, 0, 1);
        x.put(0, 3, 3, 0);
        polynomialIs("the highest taken away", x::determinant, 0, 0, 0, 0, 0, 0, 0, 0, 0, -1);
    }

    private static void promise10() {
        quote("promise 10", "(of no rows both are 1)");
        polynomialIs("no rows", new NormalForms()::characteristic, 1);
        quote("promise 10", "The number at a power in the CHARACTERISTIC polynomial; likewise.");
        polynomialIs("one row, 0", Given.sized(1, 1)::characteristic, 0, 1);
        polynomialIs("one row, 32002", Given.ofNumbers(1, P - 1)::characteristic, 1, 1);
        polynomialIs("four rows of zeros", Given.sized(4, 4)::characteristic, 0, 0, 0, 0, 1);
        polynomialIs("1 at all (i, i)", Given.diagonal(4, 4, 4, 1)::characteristic, 1, -4, 6, -4, 1);
        quote("promise 10", "that of all entries' numbers at the power 0");
        NormalForms x = Given.sized(2, 2);
        for (int k = 0; k < 4; k++) {
            Given.polynomial(x, k / 2, k % 2, 0, 1, 2, 3);
        }
        polynomialIs("other powers alone", x::characteristic, 0, 0, 1);
    }

    private static void promise11() {
        quote("promise 11", "(of no rows both are 1)");
        polynomialIs("no rows", new NormalForms()::minimal, 1);
        quote("promise 11", "the MONIC one of the lowest degree that is 0 if it is put in place of x");
        polynomialIs("one row, 0", Given.sized(1, 1)::minimal, 0, 1);
        polynomialIs("four rows of zeros", Given.sized(4, 4)::minimal, 0, 1);
        polynomialIs("1 at all (i, i)", Given.diagonal(4, 4, 4, 1)::minimal, -1, 1);
        polynomialIs("as high as there are rows",
                Given.ofNumbers(4, 0, 1, 0, 0, 0, 0, 1, 0, 0, 0, 0, 1, 0, 0, 0, 0)::minimal, 0, 0, 0, 0, 1);
        polynomialIs("three rows, one number less", Given.diagonal(3, 3, 2, 1)::minimal, 0, -1, 1);
        quote("promise 11", "that of all entries' numbers at the power 0");
        NormalForms x = Given.sized(2, 2);
        for (int k = 0; k < 4; k++) {
            Given.polynomial(x, k / 2, k % 2, 0, 1, 2, 3);
        }
        polynomialIs("other powers alone", x::minimal, 0, 1);
    }

    private static void promise12() {
        quote("promise 12", "the least first, each once");
        rootsAre("none, no rows", new NormalForms());
        rootsAre("none", Given.ofNumbers(2, 0, -1, 1, 0));
        rootsAre("none of four rows", Given.ofNumbers(4, 0, -1, 0, 0, 1, 0, 0, 0, 0, 0, 0, -1, 0, 0, 1, 0));
        rootsAre("the least number", Given.sized(1, 1), 0);
        rootsAre("the greatest number", Given.ofNumbers(1, P - 1), P - 1);
        rootsAre("modulo 32003", Given.ofNumbers(1, P), 0);
        rootsAre("one, four times", Given.diagonal(4, 4, 4, 9), 9);
        rootsAre("two, the greater one first", Given.ofNumbers(2, P - 1, 0, 0, 0), 0, P - 1);
        rootsAre("two that differ by 1", Given.ofNumbers(2, 16002, 5, 0, 16001), 16001, 16002);
        rootsAre("three of four rows", Given.ofNumbers(4, 3, 1, 1, 1, 0, 2, 1, 1, 0, 0, 1, 1, 0, 0, 0, 2), 1, 2, 3);
        rootsAre("four", Given.ofNumbers(4, -1, 1, 1, 1, 0, -2, 1, 1, 0, 0, 1, 1, 0, 0, 0, 0), 0, 1, P - 2, P - 1);
    }

    private static void rootsAre(String what, NormalForms x, int... due) {
        quote("promise 12", "ROOT k; -1 if there is none such.");
        for (int k : new int[] {LEAST, -2, -1, 0, 1, 2, 3, 4, 5, P - 1, P, MOST}) {
            is(k < 0 || k >= due.length ? -1 : due[k], what + ", root(" + k + ")", () -> x.root(k));
        }
        quote("promise 13", "IllegalArgumentException: there is no such root");
        for (int k : new int[] {LEAST, -1, due.length, 4, MOST}) {
            refuses(ARGUMENT, what + ", blocks(" + k + ", 1)", () -> x.blocks(k, 1));
        }
    }

    private static void promises10To13AfterPut() {
        quote("promises 10 to 13", "that of all entries' numbers at the power 0");
        NormalForms x = Given.ofNumbers(2, 1, 0, 0, 2);
        is(1, "root(0) before", () -> x.root(0));
        for (int power = 1; power < 4; power++) {
            x.put(0, 0, power, 6);
        }
        is(1, "root(0) after other powers", () -> x.root(0));
        is(P - 3, "characteristic after other powers", () -> x.characteristic(1));
        x.put(0, 0, 0, 2);
        is(2, "root(0) after the power 0", () -> x.root(0));
        is(-1, "root(1) after the power 0", () -> x.root(1));
        is(2, "blocks after the power 0", () -> x.blocks(0, 1));
        is(P - 4, "characteristic after the power 0", () -> x.characteristic(1));
        is(P - 2, "minimal after the power 0", () -> x.minimal(0));
    }

    private static void promise13Refuses() {
        quote("promise 13", "IllegalArgumentException: .. or n is below 1.");
        NormalForms x = Given.ofNumbers(2, 3, 0, 0, 4);
        for (int n : new int[] {0, -1, LEAST}) {
            refuses(ARGUMENT, "blocks(0, " + n + ")", () -> x.blocks(0, n));
            refuses(ARGUMENT, "blocks(1, " + n + ")", () -> x.blocks(1, n));
            refuses(ARGUMENT, "blocks(2, " + n + ")", () -> x.blocks(2, n));
            refuses(ARGUMENT, "blocks(-1, " + n + ")", () -> x.blocks(-1, n));
        }
        is(1, "blocks(1, 1)", () -> x.blocks(1, 1));
        quote("promise 13", "Of several the one that stands first behind \"throws\" is thrown");
        NormalForms wide = Given.sized(1, 2);
        refuses(STATE, "not square, no such root, n below 1", () -> wide.blocks(-1, 0));
        refuses(STATE, "not square, no such root", () -> wide.blocks(5, 1));
        refuses(STATE, "not square, n below 1", () -> wide.blocks(0, 0));
    }

    private static void promise13Sizes() {
        quote("promise 13", "How many BLOCKS of size n root k has.");
        blocksAre("one row", Given.ofNumbers(1, P - 1), 0, 1);
        blocksAre("1 four times", Given.diagonal(4, 4, 4, 1), 0, 4);
        blocksAre("all in one", Given.ofNumbers(4, 1, 1, 0, 0, 0, 1, 1, 0, 0, 0, 1, 1, 0, 0, 0, 1), 0, 0, 0, 0, 1);
        blocksAre("3 and 1", Given.ofNumbers(4, 0, 1, 0, 0, 0, 0, 1, 0, 0, 0, 0, 0, 0, 0, 0, 0), 0, 1, 0, 1);
        blocksAre("2 and 2", Given.ofNumbers(4, 0, 1, 0, 0, 0, 0, 0, 0, 0, 0, 0, 1, 0, 0, 0, 0), 0, 0, 2);
        blocksAre("2, 1 and 1", Given.ofNumbers(4, 0, 0, 0, 5, 0, 0, 0, 0, 0, 0, 0, 0, 0, 0, 0, 0), 0, 2, 1);
        NormalForms two = Given.ofNumbers(4, 8, 1, 0, 0, 0, 8, 0, 0, 0, 0, 6, 1, 0, 0, 0, 6);
        blocksAre("the first of two roots", two, 0, 0, 1);
        blocksAre("the second of two roots", two, 1, 0, 1);
        blocksAre("beside a part without roots", Given.ofNumbers(3, 0, -1, 0, 1, 0, 0, 0, 0, 9), 0, 1);
    }

    /** So many of size 1, 2 and so on, and none of greater sizes. */
    private static void blocksAre(String what, NormalForms x, int k, int... due) {
        for (int n : new int[] {1, 2, 3, 4, 5, 6, 13, 14, MOST - 1, MOST}) {
            is(n > due.length ? 0 : due[n - 1], what + ", blocks(" + k + ", " + n + ")", () -> x.blocks(k, n));
        }
    }

    private static void promise14() {
        quote("promise 14", "How many rows (which 0), columns (1) there are");
        forAllSizes((rows, columns) -> {
            NormalForms x = Given.sized(rows, columns);
            is(rows, sizes(rows, columns) + "count(0)", () -> x.count(0));
            is(columns, sizes(rows, columns) + "count(1)", () -> x.count(1));
        });
        quote("promise 14", "forms that are there (2)");
        for (int made = 0; made < 8; made++) {
            NormalForms x = Given.ofNumbers(1, 4);
            for (int form = 0; form < 3; form++) {
                if ((made >> form & 1) == 1) {
                    x.make(form);
                    x.make(form);
                }
            }
            is(Integer.bitCount(made), "the forms in " + Integer.toBinaryString(made), () -> x.count(2));
        }
        quote("promise 14", "-1 for another which");
        NormalForms x = Given.withForms(Given.diagonal(4, 4, 4, 1));
        for (int which : new int[] {-1, -2, 3, 4, 256, LEAST, MOST}) {
            is(-1, "count(" + which + ")", () -> x.count(which));
        }
    }

    private static void lastCall() {
        quote("promises 1 to 14", "An object is used for at most 512 calls after it has been made");
        NormalForms x = Given.sized(1, 1);
        for (int call = 2; call <= 510; call++) {
            x.put(0, 0, 0, call);
        }
        is(1, "call 511", () -> x.make(0));
        is(510, "call 512", () -> x.root(0));
    }
}
