/** Each promise of the document by itself, with answers that were worked out by hand. */
public final class PromisesTest {
    private static final Check check = new Check();
    private static final int LEAST = Given.LEAST;
    private static final int MOST = Given.MOST;

    public static void main(String[] args) {
        promise1NewObject();
        promise2Size();
        promise2SizeRefuses();
        promise3Put();
        promise3PutTakesFormsAway();
        promise4Entry();
        promise5Make();
        promise5MakeInverse();
        promise6Degree();
        promise7At();
        formsOfNoRows();
        hermiteForm();
        smithForm();
        inverseForm();
        promise8Rank();
        promise9Determinant();
        promise10Characteristic();
        promise11Minimal();
        promise12Root();
        promise13Blocks();
        promise14Count();
        check.finish();
    }

    private static void promise1NewObject() {
        NormalForms x = new NormalForms();
        check.answers("new: rows", () -> x.count(0), 0);
        check.answers("new: columns", () -> x.count(1), 0);
        check.answers("new: forms", () -> x.count(2), 0);
        check.answers("new: rank", x::rank, 0);
        check.answers("new: determinant", () -> x.determinant(0), 1);
        check.answers("new: characteristic", () -> x.characteristic(0), 1);
        check.answers("new: minimal", () -> x.minimal(0), 1);
        check.answers("new: root", () -> x.root(0), -1);
        check.throwing("new: no entry", ArrayIndexOutOfBoundsException.class, () -> x.entry(0, 0, 0));
        check.throwing("new: no form", IllegalStateException.class, () -> x.degree(0, 0, 0));
    }

    private static void promise2Size() {
        NormalForms x = new NormalForms();
        for (int rows = 0; rows <= 4; rows++) {
            for (int columns = 0; columns <= 4; columns++) {
                x.size(rows, columns);
                check.equal("size: rows", x.count(0), rows);
                check.equal("size: columns", x.count(1), columns);
            }
        }
        for (int i = 0; i < 4; i++) {
            for (int j = 0; j < 4; j++) {
                x.put(i, j, 3, 9);
                x.put(i, j, 0, i == j ? 5 : 0);
            }
        }
        x.make(0);
        x.make(1);
        check.equal("before size: root", x.root(0), 5);
        x.size(4, 4);
        check.equal("the same size takes forms away", x.count(2), 0);
        check.equal("size: rank of zeros", x.rank(), 0);
        check.equal("size: root of zeros", x.root(0), 0);
        check.equal("size: other roots", x.root(1), -1);
        for (int i = 0; i < 4; i++) {
            for (int j = 0; j < 4; j++) {
                for (int power = 0; power < 4; power++) {
                    check.equal("size: entries are 0", x.entry(i, j, power), 0);
                }
            }
        }
        x.put(3, 3, 0, 1);
        x.size(2, 2);
        x.size(4, 4);
        check.equal("a smaller size forgets what lay outside", x.entry(3, 3, 0), 0);
        check.equal("a smaller size forgets the rank", x.rank(), 0);
    }

    private static void promise2SizeRefuses() {
        NormalForms x = Given.ofNumbers(2, 1, 2, 3, 4);
        x.make(0);
        int[][] below = {{-1, 2}, {2, -1}, {-1, -1}, {9, -1}, {-1, 9}, {LEAST, MOST}, {MOST, LEAST}};
        for (int[] sizes : below) {
            check.throwing("size(" + sizes[0] + ", " + sizes[1] + ")", NegativeArraySizeException.class,
                    () -> { x.size(sizes[0], sizes[1]); return 0; });
        }
        int[][] above = {{5, 0}, {0, 5}, {5, 5}, {MOST, 1}, {1, MOST}};
        for (int[] sizes : above) {
            check.throwing("size(" + sizes[0] + ", " + sizes[1] + ")", IllegalArgumentException.class,
                    () -> { x.size(sizes[0], sizes[1]); return 0; });
        }
        check.equal("a refused size leaves the rows", x.count(0), 2);
        check.equal("a refused size leaves the columns", x.count(1), 2);
        check.equal("a refused size leaves the forms", x.count(2), 1);
        check.equal("a refused size leaves the entries", x.entry(1, 0, 0), 3);
    }

    private static void promise3Put() {
        NormalForms x = Given.sized(2, 3);
        check.equal("put: another", x.put(1, 2, 3, 7), true);
        check.equal("put: the same", x.put(1, 2, 3, 7), false);
        check.equal("put: the same modulo 32003", x.put(1, 2, 3, 7 - 32003), false);
        check.equal("put: the same modulo 32003, above", x.put(1, 2, 3, 7 + 2 * 32003), false);
        check.equal("put: 0 where 0 is", x.put(0, 0, 0, 0), false);
        check.equal("put: 32003 where 0 is", x.put(0, 0, 0, 32003), false);
        check.equal("put: below 0", x.put(0, 0, 0, -1), true);
        check.equal("put: below 0 is kept modulo", x.entry(0, 0, 0), 32002);
        check.equal("put: the least int", x.put(0, 0, 0, LEAST), true);
        check.equal("put: the least int modulo", x.entry(0, 0, 0), Math.floorMod(LEAST, 32003));
        check.equal("put: the greatest int", x.put(0, 0, 0, MOST), true);
        check.equal("put: the greatest int modulo", x.entry(0, 0, 0), MOST % 32003);
        check.equal("put: back to 0", x.put(0, 0, 0, 0), true);
        int[][] wrong = {
            {-1, 0, 0}, {2, 0, 0}, {0, -1, 0}, {0, 3, 0}, {0, 0, -1}, {0, 0, 4},
            {MOST, 0, 0}, {0, LEAST, 0}, {0, 0, MOST}
        };
        for (int[] w : wrong) {
            check.throwing("put(" + w[0] + ", " + w[1] + ", " + w[2] + ", 1)", ArrayIndexOutOfBoundsException.class,
                    () -> Check.counted(x.put(w[0], w[1], w[2], 1)));
        }
        check.equal("put: others stay", x.entry(0, 1, 3), 0);
    }

    private static void promise3PutTakesFormsAway() {
        NormalForms x = Given.ofNumbers(2, 1, 2, 3, 4);
        x.make(0);
        x.make(1);
        x.make(2);
        x.put(0, 0, 0, 1);
        check.equal("the same number leaves the forms", x.count(2), 3);
        check.throwing("put outside", ArrayIndexOutOfBoundsException.class, () -> Check.counted(x.put(2, 0, 0, 8)));
        check.equal("a refused put leaves the forms", x.count(2), 3);
        x.put(0, 0, 3, 1);
        check.equal("another number takes the forms away", x.count(2), 0);
        for (int form = 0; form < 3; form++) {
            int f = form;
            check.throwing("form " + f + " is away", IllegalStateException.class, () -> x.at(f, 0, 0, 0));
        }
        check.equal("the determinant changes with a put", x.determinant(3), 4);
        x.put(0, 0, 0, 2);
        check.equal("the characteristic changes with a put", x.characteristic(1), 32003 - 6);
    }

    private static void promise4Entry() {
        NormalForms x = Given.sized(4, 4);
        for (int k = 0; k < 64; k++) {
            x.put(k / 16, k / 4 % 4, k % 4, 100 + k);
        }
        for (int k = 0; k < 64; k++) {
            check.equal("entry " + k, x.entry(k / 16, k / 4 % 4, k % 4), 100 + k);
        }
        NormalForms y = Given.sized(2, 3);
        int[][] wrong = {{-1, 0, 0}, {2, 0, 0}, {0, -1, 0}, {0, 3, 0}, {0, 0, -1}, {0, 0, 4}, {LEAST, MOST, LEAST}};
        for (int[] w : wrong) {
            check.throwing("entry(" + w[0] + ", " + w[1] + ", " + w[2] + ")", ArrayIndexOutOfBoundsException.class,
                    () -> y.entry(w[0], w[1], w[2]));
        }
    }

    private static void promise5Make() {
        NormalForms x = Given.sized(3, 2);
        check.answers("make of zeros", () -> x.make(0), 0);
        Given.polynomial(x, 0, 0, 1, 1);
        Given.polynomial(x, 1, 0, 0, 1, 1);
        check.answers("make: Hermite", () -> x.make(0), 1);
        check.answers("make: Smith", () -> x.make(1), 1);
        check.answers("make: no inverse of 3 rows and 2 columns", () -> x.make(2), -1);
        check.answers("make: only two are there", () -> x.count(2), 2);
        check.answers("make again", () -> x.make(0), 1);
        check.answers("make again: no more are there", () -> x.count(2), 2);
        for (int form : new int[] {-1, 3, LEAST, MOST}) {
            check.throwing("make(" + form + ")", IllegalArgumentException.class, () -> x.make(form));
        }
        check.answers("a refused make leaves the forms", () -> x.count(2), 2);
    }

    private static void promise5MakeInverse() {
        NormalForms x = Given.sized(2, 2);
        check.answers("no inverse of zeros", () -> x.make(2), -1);
        check.answers("no form then", () -> x.count(2), 0);
        check.throwing("no entry then", IllegalStateException.class, () -> x.at(2, 0, 0, 0));
        Given.polynomial(x, 0, 0, 0, 1);
        Given.polynomial(x, 1, 1, 1);
        check.answers("no inverse if the determinant is x", () -> x.make(2), -1);
        Given.polynomial(x, 0, 0, 5, 0);
        check.answers("an inverse if it is 5", () -> x.make(2), 2);
        check.answers("it is there", () -> x.count(2), 1);
        check.answers("1 row: none of 0", () -> Given.sized(1, 1).make(2), -1);
        check.answers("1 row: one of 3", () -> Given.ofNumbers(1, 3).make(2), 1);
        check.answers("no rows but columns: none", () -> Given.sized(0, 2).make(2), -1);
        check.answers("no rows, no columns: one", () -> Given.sized(0, 0).make(2), 0);
    }

    private static void promise6Degree() {
        NormalForms x = Given.sized(2, 2);
        Given.polynomial(x, 0, 0, 1, 2, 0, 4);
        check.throwing("degree before make", IllegalStateException.class, () -> x.degree(0, 0, 0));
        x.make(0);
        check.answers("degree", () -> x.degree(0, 0, 0), 3);
        check.answers("degree of 0", () -> x.degree(0, 1, 1), -1);
        check.throwing("degree of a form that isn't there", IllegalStateException.class, () -> x.degree(1, 0, 0));
        check.throwing("that comes before the row", IllegalStateException.class, () -> x.degree(1, 9, 9));
        for (int form : new int[] {-1, 3, LEAST, MOST}) {
            check.throwing("degree of form " + form, IllegalArgumentException.class, () -> x.degree(form, 9, 9));
        }
        int[][] wrong = {{-1, 0}, {2, 0}, {0, -1}, {0, 2}, {MOST, MOST}};
        for (int[] w : wrong) {
            check.throwing("degree(0, " + w[0] + ", " + w[1] + ")", ArrayIndexOutOfBoundsException.class,
                    () -> x.degree(0, w[0], w[1]));
        }
    }

    private static void promise7At() {
        NormalForms x = Given.sized(2, 2);
        Given.polynomial(x, 0, 1, 6, 4, 2);
        check.throwing("at before make", IllegalStateException.class, () -> x.at(1, 0, 0, 0));
        x.make(0);
        check.form("at", x, 0, 0, 1, 3, 2, 1);
        check.answers("at: far above", () -> x.at(0, 0, 1, MOST), 0);
        check.answers("at: far below", () -> x.at(0, 0, 1, LEAST), 0);
        check.throwing("at of a form that isn't there", IllegalStateException.class, () -> x.at(2, 9, 9, 0));
        for (int form : new int[] {-1, 3, LEAST, MOST}) {
            check.throwing("at of form " + form, IllegalArgumentException.class, () -> x.at(form, 9, 9, 0));
        }
        int[][] wrong = {{-1, 0}, {2, 0}, {0, -1}, {0, 2}, {LEAST, LEAST}};
        for (int[] w : wrong) {
            check.throwing("at(0, " + w[0] + ", " + w[1] + ", -1)", ArrayIndexOutOfBoundsException.class,
                    () -> x.at(0, w[0], w[1], -1));
        }
    }

    private static void formsOfNoRows() {
        int[][] sizes = {{0, 0}, {0, 3}, {3, 0}};
        for (int[] s : sizes) {
            NormalForms x = Given.sized(s[0], s[1]);
            for (int form = 0; form < 2; form++) {
                int f = form;
                check.answers("nothing: make", () -> x.make(f), 0);
                check.throwing("nothing: degree", ArrayIndexOutOfBoundsException.class, () -> x.degree(f, 0, 0));
                check.throwing("nothing: at", ArrayIndexOutOfBoundsException.class, () -> x.at(f, 0, 0, 0));
            }
            check.answers("nothing: two forms", () -> x.count(2), 2);
        }
    }

    private static void hermiteForm() {
        // x and x + 1 have 1 as a common divisor: (x + 1, 0) less (x, 1) is (1, -1).
        NormalForms x = Given.sized(2, 2);
        Given.polynomial(x, 0, 0, 0, 1);
        Given.polynomial(x, 0, 1, 1);
        Given.polynomial(x, 1, 0, 1, 1);
        x.make(0);
        check.form("Hermite", x, 0, 0, 0, 1);
        check.form("Hermite", x, 0, 0, 1, -1);
        check.form("Hermite", x, 0, 1, 0);
        check.form("Hermite", x, 0, 1, 1, 1, 1);

        // The first column has no pivot, rows of zeros come last, columns are not put onto others.
        NormalForms y = Given.sized(3, 3);
        Given.polynomial(y, 1, 1, 0, 0, 2);
        Given.polynomial(y, 1, 2, 4);
        Given.polynomial(y, 2, 1, 0, 0, 1);
        Given.polynomial(y, 2, 2, 2);
        y.make(0);
        check.form("gap", y, 0, 0, 0);
        check.form("gap", y, 0, 0, 1, 0, 0, 1);
        check.form("gap", y, 0, 0, 2, 2);
        for (int j = 0; j < 3; j++) {
            check.form("gap", y, 0, 1, j);
            check.form("gap", y, 0, 2, j);
        }

        // Above a pivot degrees are lower: (1, x^3) less x times (0, x^2 + 1) is (1, -x).
        NormalForms z = Given.sized(2, 2);
        Given.polynomial(z, 0, 0, 1);
        Given.polynomial(z, 0, 1, 0, 0, 0, 1);
        Given.polynomial(z, 1, 1, 3, 0, 3);
        z.make(0);
        check.form("above", z, 0, 0, 1, 0, -1);
        check.form("above", z, 0, 1, 1, 1, 0, 1);
        check.equal("the matrix itself stays", z.entry(1, 1, 2), 3);
    }

    private static void smithForm() {
        // x and x + 1 at (i, i): 1 and their product.
        NormalForms x = Given.sized(2, 3);
        Given.polynomial(x, 0, 0, 0, 5);
        Given.polynomial(x, 1, 1, 1, 1);
        x.make(1);
        check.form("Smith", x, 1, 0, 0, 1);
        check.form("Smith", x, 1, 1, 1, 0, 1, 1);
        check.form("Smith", x, 1, 0, 1);
        check.form("Smith", x, 1, 1, 0);
        check.form("Smith", x, 1, 0, 2);

        // x^2 stands before x: they change places.
        NormalForms y = Given.sized(3, 3);
        Given.polynomial(y, 0, 0, 0, 0, 2);
        Given.polynomial(y, 1, 2, 0, 3);
        y.make(1);
        check.form("order", y, 1, 0, 0, 0, 1);
        check.form("order", y, 1, 1, 1, 0, 0, 1);
        check.form("order", y, 1, 2, 2);
        check.form("order", y, 1, 1, 2);

        // The highest degree that there is: x^3 + i at (i, i), none having a common divisor.
        NormalForms z = Given.sized(4, 4);
        for (int i = 0; i < 4; i++) {
            Given.polynomial(z, i, i, i, 0, 0, 1);
        }
        z.make(1);
        check.form("high", z, 1, 0, 0, 1);
        check.form("high", z, 1, 2, 2, 1);
        check.form("high", z, 1, 3, 3, 0, 0, 0, 6, 0, 0, 11, 0, 0, 6, 0, 0, 1);
    }

    private static void inverseForm() {
        // (1, x; 0, 2): its inverse is (1, -x / 2; 0, 1 / 2), a half being 16002.
        NormalForms x = Given.sized(2, 2);
        Given.polynomial(x, 0, 0, 1);
        Given.polynomial(x, 0, 1, 0, 1);
        Given.polynomial(x, 1, 1, 2);
        check.answers("inverse", () -> x.make(2), 2);
        check.form("inverse", x, 2, 0, 0, 1);
        check.form("inverse", x, 2, 0, 1, 0, -16002);
        check.form("inverse", x, 2, 1, 0);
        check.form("inverse", x, 2, 1, 1, 16002);

        // 1 at (i, i), x^3 right of it: at the far right of the inverse is -x^9.
        NormalForms y = Given.sized(4, 4);
        for (int i = 0; i < 4; i++) {
            Given.polynomial(y, i, i, 1);
            if (i < 3) {
                Given.polynomial(y, i, i + 1, 0, 0, 0, 1);
            }
        }
        y.make(2);
        check.form("high inverse", y, 2, 0, 3, 0, 0, 0, 0, 0, 0, 0, 0, 0, -1);
        check.form("high inverse", y, 2, 0, 2, 0, 0, 0, 0, 0, 0, 1);
        check.form("high inverse", y, 2, 3, 0);
    }

    private static void promise8Rank() {
        NormalForms x = Given.sized(3, 4);
        check.answers("rank of zeros", x::rank, 0);
        Given.polynomial(x, 2, 3, 0, 0, 0, 1);
        check.answers("rank of one entry", x::rank, 1);
        Given.polynomial(x, 1, 3, 7);
        check.answers("rank of one column", x::rank, 1);
        Given.polynomial(x, 0, 0, 0, 1);
        check.answers("rank 2", x::rank, 2);
        Given.polynomial(x, 1, 1, 1);
        check.answers("rank 3", x::rank, 3);
        NormalForms y = Given.sized(2, 2);
        Given.polynomial(y, 0, 0, 0, 1);
        Given.polynomial(y, 0, 1, 0, 0, 1);
        Given.polynomial(y, 1, 0, 1);
        Given.polynomial(y, 1, 1, 0, 1);
        check.answers("rank of a multiple", y::rank, 1);
        check.answers("rank without rows", () -> Given.sized(0, 4).rank(), 0);
        check.answers("rank without columns", () -> Given.sized(4, 0).rank(), 0);
    }

    private static void promise9Determinant() {
        NormalForms x = Given.sized(4, 4);
        for (int i = 0; i < 4; i++) {
            Given.polynomial(x, i, i, 1, 0, 0, 1);
        }
        int[] due = {1, 0, 0, 4, 0, 0, 6, 0, 0, 4, 0, 0, 1};
        for (int power = -1; power <= 14; power++) {
            int p = power;
            check.answers("determinant(" + p + ")", () -> x.determinant(p), p < 0 || p > 12 ? 0 : due[p]);
        }
        check.answers("determinant(least)", () -> x.determinant(LEAST), 0);
        check.answers("determinant(most)", () -> x.determinant(MOST), 0);
        NormalForms y = Given.ofNumbers(3, 0, 1, 0, 1, 0, 0, 0, 0, 1);
        check.answers("exchanged rows change the sign", () -> y.determinant(0), 32002);
        check.answers("without rows it is 1", () -> new NormalForms().determinant(0), 1);
        check.answers("without rows it has no power 1", () -> new NormalForms().determinant(1), 0);
        for (int rows = 0; rows <= 4; rows++) {
            NormalForms z = Given.sized(rows, (rows + 1) % 5);
            check.throwing("determinant, not square", IllegalStateException.class, () -> z.determinant(0));
        }
    }

    private static void promise10Characteristic() {
        // Its numbers alone count: x^2 - 5 x - 2.
        NormalForms x = Given.ofNumbers(2, 1, 2, 3, 4);
        x.put(0, 1, 1, 9);
        x.put(1, 1, 3, 9);
        int[] due = {-2, -5, 1};
        for (int power = -1; power <= 5; power++) {
            int p = power;
            check.answers("characteristic(" + p + ")", () -> x.characteristic(p),
                    p < 0 || p > 2 ? 0 : Math.floorMod(due[p], 32003));
        }
        NormalForms zeros = Given.sized(4, 4);
        check.answers("of zeros x^4", () -> zeros.characteristic(4), 1);
        check.answers("of zeros nothing else", () -> zeros.characteristic(3), 0);
        check.answers("without rows it is 1", () -> Given.sized(0, 0).characteristic(0), 1);
        check.answers("without rows it has no power 1", () -> Given.sized(0, 0).characteristic(1), 0);
        check.throwing("characteristic, not square", IllegalStateException.class,
                () -> Given.sized(2, 3).characteristic(0));
        check.throwing("characteristic, no rows, one column", IllegalStateException.class,
                () -> Given.sized(0, 1).characteristic(0));
    }

    private static void promise11Minimal() {
        NormalForms x = Given.ofNumbers(3, 2, 0, 0, 0, 2, 0, 0, 0, 3);
        int[] due = {6, -5, 1};
        for (int power = -1; power <= 5; power++) {
            int p = power;
            check.answers("minimal(" + p + ")", () -> x.minimal(p), p < 0 || p > 2 ? 0 : Math.floorMod(due[p], 32003));
        }
        x.put(0, 1, 0, 1);
        check.answers("minimal of a longer block", () -> x.minimal(3), 1);
        check.answers("minimal of a longer block, at 0", () -> x.minimal(0), 32003 - 12);
        NormalForms zeros = Given.sized(4, 4);
        check.answers("of zeros x", () -> zeros.minimal(1), 1);
        check.answers("of zeros no more", () -> zeros.minimal(2), 0);
        check.answers("of zeros not 1", () -> zeros.minimal(0), 0);
        NormalForms one = Given.ofNumbers(1, 7);
        check.answers("of one number", () -> one.minimal(0), 32003 - 7);
        check.answers("without rows it is 1", () -> Given.sized(0, 0).minimal(0), 1);
        check.answers("without rows it has no power 1", () -> Given.sized(0, 0).minimal(1), 0);
        check.answers("without rows it has no power -1", () -> Given.sized(0, 0).minimal(-1), 0);
        check.throwing("minimal, not square", IllegalStateException.class, () -> Given.sized(3, 2).minimal(0));
    }

    private static void promise12Root() {
        NormalForms x = Given.ofNumbers(4, 32002, 0, 0, 0, 0, 5, 0, 0, 0, 0, 0, 0, 0, 0, 0, 16001);
        int[] due = {0, 5, 16001, 32002};
        for (int k = -1; k <= 5; k++) {
            int index = k;
            check.answers("root(" + k + ")", () -> x.root(index), k < 0 || k > 3 ? -1 : due[k]);
        }
        check.answers("root(least)", () -> x.root(LEAST), -1);
        check.answers("root(most)", () -> x.root(MOST), -1);
        x.put(0, 0, 0, 5);
        x.put(3, 3, 0, 0);
        check.answers("each once, the first", () -> x.root(0), 0);
        check.answers("each once, the second", () -> x.root(1), 5);
        check.answers("each once, no more", () -> x.root(2), -1);
        // x^2 + 1 has no root, as 32003 leaves 3 if it is divided by 4.
        NormalForms none = Given.ofNumbers(2, 0, -1, 1, 0);
        check.answers("no root", () -> none.root(0), -1);
        NormalForms mixed = Given.ofNumbers(3, 0, -1, 0, 1, 0, 0, 0, 0, 9);
        check.answers("one root beside x^2 + 1", () -> mixed.root(0), 9);
        check.answers("only one beside x^2 + 1", () -> mixed.root(1), -1);
        NormalForms powers = Given.ofNumbers(2, 1, 0, 0, 2);
        check.answers("before a higher power", () -> powers.root(1), 2);
        powers.put(0, 1, 2, 8);
        check.answers("higher powers do not count", () -> powers.root(1), 2);
        check.answers("without rows none", () -> Given.sized(0, 0).root(0), -1);
        check.throwing("root, not square", IllegalStateException.class, () -> Given.sized(1, 2).root(0));
        check.throwing("root, not square, no such root", IllegalStateException.class, () -> Given.sized(1, 2).root(-1));
    }

    private static void promise13Blocks() {
        // Root 0 with blocks of sizes 2 and 1, root 7 with one of size 1.
        NormalForms x = Given.ofNumbers(4, 0, 1, 0, 0, 0, 0, 0, 0, 0, 0, 0, 0, 0, 0, 0, 7);
        int[][] due = {{1, 1, 0, 0, 0, 0}, {1, 0, 0, 0, 0, 0}};
        for (int k = 0; k < 2; k++) {
            for (int n = 1; n <= 6; n++) {
                int root = k;
                int size = n;
                check.answers("blocks(" + k + ", " + n + ")", () -> x.blocks(root, size), due[k][n - 1]);
            }
        }
        check.answers("blocks of the greatest size", () -> x.blocks(0, MOST), 0);
        int[][] wrong = {{-1, 1}, {2, 1}, {0, 0}, {1, -1}, {0, LEAST}, {LEAST, 1}, {MOST, MOST}};
        for (int[] w : wrong) {
            check.throwing("blocks(" + w[0] + ", " + w[1] + ")", IllegalArgumentException.class,
                    () -> x.blocks(w[0], w[1]));
        }
        NormalForms one = Given.ofNumbers(4, 3, 1, 0, 0, 0, 3, 1, 0, 0, 0, 3, 1, 0, 0, 0, 3);
        check.answers("one block of size 4", () -> one.blocks(0, 4), 1);
        check.answers("none of size 3", () -> one.blocks(0, 3), 0);
        NormalForms pairs = Given.ofNumbers(4, 3, 1, 0, 0, 0, 3, 0, 0, 0, 0, 3, 1, 0, 0, 0, 3);
        check.answers("two blocks of size 2", () -> pairs.blocks(0, 2), 2);
        check.answers("four blocks of size 1", () -> Given.sized(4, 4).blocks(0, 1), 4);
        check.throwing("blocks without rows", IllegalArgumentException.class, () -> Given.sized(0, 0).blocks(0, 1));
        check.throwing("blocks, not square", IllegalStateException.class, () -> Given.sized(2, 1).blocks(0, 1));
        check.throwing("blocks, not square comes first", IllegalStateException.class,
                () -> Given.sized(2, 1).blocks(-1, 0));
    }

    private static void promise14Count() {
        NormalForms x = Given.ofNumbers(3, 1, 0, 0, 0, 1, 0, 0, 0, 1);
        check.answers("no form yet", () -> x.count(2), 0);
        x.make(1);
        check.answers("one form", () -> x.count(2), 1);
        x.make(2);
        check.answers("two forms", () -> x.count(2), 2);
        x.make(0);
        check.answers("three forms", () -> x.count(2), 3);
        NormalForms y = Given.sized(2, 4);
        check.answers("rows", () -> y.count(0), 2);
        check.answers("columns", () -> y.count(1), 4);
        for (int which : new int[] {-1, 3, 4, LEAST, MOST}) {
            check.answers("count(" + which + ")", () -> y.count(which), -1);
        }
    }
}
