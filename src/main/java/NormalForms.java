/**
 * Matrices of polynomials over the numbers modulo 32003: determinants, ranks, Hermite and Smith
 * forms, inverses; of the numbers in them characteristic and minimal polynomials, roots, blocks.
 *
 * Every polynomial that a call works with is made once, with the object: a call makes none.
 */
public final class NormalForms {
    private static final int MODULUS = 32003;
    private static final int SIDE = 4;
    private static final int ALL_LINES = (1 << SIDE) - 1;
    private static final int ENTRY_POWERS = 4;

    /** A minor has a degree of at most 4 times 3, and so has an entry of every form. */
    private static final int FORM_POWERS = 13;

    private static final int HERMITE = 0;
    private static final int SMITH = 1;
    private static final int INVERSE = 2;
    private static final int FORMS = 3;

    private int rowCount;
    private int columnCount;
    private final Matrix entries;
    private final Minors minors;
    private boolean minorsKnown;

    /** x at all (i, i) less the numbers' matrix. */
    private final Matrix xLessNumbers;
    private final Minors numbersMinors;
    private boolean numbersMinorsKnown;
    private final Roots roots;
    private boolean rootsKnown;

    private final Echelon echelon;
    private final Matrix[] forms;
    private final boolean[] formThere;
    private final Divider divider;
    private final Polynomial linear;

    public NormalForms() {
        entries = new Matrix(ENTRY_POWERS);
        minors = new Minors();
        xLessNumbers = new Matrix(2);
        numbersMinors = new Minors();
        roots = new Roots();
        echelon = new Echelon();
        forms = new Matrix[FORMS];
        for (int form = 0; form < FORMS; form++) {
            forms[form] = new Matrix(FORM_POWERS);
        }
        formThere = new boolean[FORMS];
        divider = new Divider();
        linear = new Polynomial(2);
    }

    public void size(int rows, int columns) throws NegativeArraySizeException, IllegalArgumentException {
        if (rows < 0 || columns < 0) {
            throw new NegativeArraySizeException("a size is below 0");
        }
        if (rows > SIDE || columns > SIDE) {
            throw new IllegalArgumentException("a size is above 4");
        }
        rowCount = rows;
        columnCount = columns;
        entries.clear();
        forgetEntries();
        forgetNumbers();
    }

    public boolean put(int i, int j, int power, int v) throws ArrayIndexOutOfBoundsException {
        needEntry(i, j, power);
        Polynomial cell = entries.cell(i, j);
        int number = Math.floorMod(v, MODULUS);
        if (cell.numberAt(power) == number) {
            return false;
        }
        cell.setNumber(power, number);
        forgetEntries();
        if (power == 0) {
            forgetNumbers();
        }
        return true;
    }

    public int entry(int i, int j, int power) throws ArrayIndexOutOfBoundsException {
        needEntry(i, j, power);
        return entries.cell(i, j).numberAt(power);
    }

    public int make(int form) throws IllegalArgumentException {
        needForm(form);
        knowMinors();
        if (form == INVERSE) {
            return makeInverse();
        }
        if (form == HERMITE) {
            echelon.reckon(entries);
            echelon.writeTo(forms[HERMITE]);
        } else {
            makeSmith();
        }
        formThere[form] = true;
        return minors.order;
    }

    public int degree(int form, int i, int j)
            throws IllegalArgumentException, IllegalStateException, ArrayIndexOutOfBoundsException {
        return formCell(form, i, j).degree;
    }

    public int at(int form, int i, int j, int power)
            throws IllegalArgumentException, IllegalStateException, ArrayIndexOutOfBoundsException {
        return formCell(form, i, j).numberAt(power);
    }

    public int rank() {
        knowMinors();
        return minors.order;
    }

    public int determinant(int power) throws IllegalStateException {
        needSquare();
        knowMinors();
        return minors.leading(rowCount).numberAt(power);
    }

    public int characteristic(int power) throws IllegalStateException {
        needSquare();
        knowNumbersMinors();
        return numbersMinors.leading(rowCount).numberAt(power);
    }

    public int minimal(int power) throws IllegalStateException {
        needSquare();
        knowNumbersMinors();
        // The last invariant of x less the matrix is its minimal polynomial; no rows have none.
        if (rowCount == 0) {
            return power == 0 ? 1 : 0;
        }
        return numbersMinors.invariants[rowCount - 1].numberAt(power);
    }

    public int root(int k) throws IllegalStateException {
        needSquare();
        knowRoots();
        return k < 0 || k >= roots.found ? -1 : roots.values[k];
    }

    public int blocks(int k, int n) throws IllegalStateException, IllegalArgumentException {
        needSquare();
        knowRoots();
        if (k < 0 || k >= roots.found) {
            throw new IllegalArgumentException("there is no such root");
        }
        if (n < 1) {
            throw new IllegalArgumentException("a block's size is below 1");
        }
        // The ranks of R's powers tell the same as the invariants of x less the matrix: one block
        // of size n for each invariant that x less the root divides just n times.
        linear.setNumber(1, 1);
        linear.setNumber(0, negative(roots.values[k]));
        int blocksFound = 0;
        for (int i = 0; i < rowCount; i++) {
            if (divider.howOften(linear, numbersMinors.invariants[i]) == n) {
                blocksFound++;
            }
        }
        return blocksFound;
    }

    public int count(int which) {
        if (which == 0) {
            return rowCount;
        }
        if (which == 1) {
            return columnCount;
        }
        if (which != 2) {
            return -1;
        }
        int formsThere = 0;
        for (int form = 0; form < FORMS; form++) {
            if (formThere[form]) {
                formsThere++;
            }
        }
        return formsThere;
    }

    private void needEntry(int i, int j, int power) {
        needCell(i, j);
        if (power < 0 || power >= ENTRY_POWERS) {
            throw new ArrayIndexOutOfBoundsException("there is no such power");
        }
    }

    private void needCell(int i, int j) {
        if (i < 0 || i >= rowCount || j < 0 || j >= columnCount) {
            throw new ArrayIndexOutOfBoundsException("there is no such row or column");
        }
    }

    private void needForm(int form) {
        if (form < 0 || form >= FORMS) {
            throw new IllegalArgumentException("there is no such form");
        }
    }

    private void needSquare() {
        if (rowCount != columnCount) {
            throw new IllegalStateException("there are not as many rows as columns");
        }
    }

    /** A form has as many rows and columns as the matrix: other sizes would have taken it away. */
    private Polynomial formCell(int form, int i, int j) {
        needForm(form);
        if (!formThere[form]) {
            throw new IllegalStateException("that form isn't there");
        }
        needCell(i, j);
        return forms[form].cell(i, j);
    }

    private void forgetEntries() {
        minorsKnown = false;
        for (int form = 0; form < FORMS; form++) {
            formThere[form] = false;
        }
    }

    private void forgetNumbers() {
        numbersMinorsKnown = false;
        rootsKnown = false;
    }

    private void knowMinors() {
        if (!minorsKnown) {
            minors.reckon(entries);
            minorsKnown = true;
        }
    }

    private void knowNumbersMinors() {
        if (numbersMinorsKnown) {
            return;
        }
        xLessNumbers.clear();
        for (int i = 0; i < rowCount; i++) {
            for (int j = 0; j < columnCount; j++) {
                xLessNumbers.cell(i, j).setNumber(0, negative(entries.cell(i, j).numberAt(0)));
            }
            xLessNumbers.cell(i, i).setNumber(1, 1);
        }
        numbersMinors.reckon(xLessNumbers);
        numbersMinorsKnown = true;
    }

    private void knowRoots() {
        knowNumbersMinors();
        if (!rootsKnown) {
            roots.reckon(numbersMinors.leading(rowCount));
            rootsKnown = true;
        }
    }

    private void makeSmith() {
        Matrix smith = forms[SMITH];
        smith.clear();
        for (int i = 0; i < minors.order; i++) {
            smith.cell(i, i).copyFrom(minors.invariants[i]);
        }
    }

    private int makeInverse() {
        Polynomial whole = minors.leading(rowCount);
        if (rowCount != columnCount || whole.degree != 0) {
            return -1;
        }
        int factor = inverseOf(whole.numberAt(0));
        int lines = (1 << rowCount) - 1;
        Matrix inverse = forms[INVERSE];
        for (int i = 0; i < rowCount; i++) {
            for (int j = 0; j < columnCount; j++) {
                Polynomial cell = inverse.cell(i, j);
                cell.copyFrom(minors.of(lines & ~(1 << j), lines & ~(1 << i)));
                cell.multiply((i + j) % 2 == 0 ? factor : negative(factor));
            }
        }
        formThere[INVERSE] = true;
        return rowCount;
    }

    private static int negative(int number) {
        return number == 0 ? 0 : MODULUS - number;
    }

    /** A number to the power of 32001 is its inverse, as to that of 32002 it is 1 (but for 0). */
    private static int inverseOf(int number) {
        int result = 1;
        int square = number;
        for (int exponent = MODULUS - 2; exponent > 0; exponent >>= 1) {
            if ((exponent & 1) == 1) {
                result = result * square % MODULUS;
            }
            square = square * square % MODULUS;
        }
        return result;
    }

    /**
     * A polynomial with room for a fixed count of powers. Two numbers' product and a number fit
     * into an int, so no long is needed.
     */
    private static final class Polynomial {
        /** Those above the degree are 0. */
        private final int[] numbers;
        private int degree;

        Polynomial(int powers) {
            numbers = new int[powers];
            degree = -1;
        }

        int numberAt(int power) {
            return power < 0 || power > degree ? 0 : numbers[power];
        }

        void clear() {
            for (int power = 0; power <= degree; power++) {
                numbers[power] = 0;
            }
            degree = -1;
        }

        void setNumber(int power, int number) {
            if (power < 0 || power >= numbers.length) {
                return;
            }
            numbers[power] = number;
            findDegree(Math.max(degree, power));
        }

        void copyFrom(Polynomial other) {
            clear();
            int top = Math.min(other.degree, numbers.length - 1);
            for (int power = 0; power <= top; power++) {
                numbers[power] = other.numbers[power];
            }
            findDegree(top);
        }

        /** By a number other than 0: the degree stays. */
        void multiply(int factor) {
            for (int power = 0; power <= degree; power++) {
                numbers[power] = numbers[power] * factor % MODULUS;
            }
        }

        void makeMonic() {
            if (degree >= 0) {
                multiply(inverseOf(numbers[degree]));
            }
        }

        /** Puts factor times one times other onto this, which is neither of them. */
        void addProduct(int factor, Polynomial one, Polynomial other) {
            for (int i = 0; i <= one.degree; i++) {
                int number = one.numbers[i] * factor % MODULUS;
                int last = Math.min(other.degree, numbers.length - 1 - i);
                for (int j = 0; j <= last; j++) {
                    numbers[i + j] = (numbers[i + j] + number * other.numbers[j]) % MODULUS;
                }
            }
            findDegree(Math.min(Math.max(degree, one.degree + other.degree), numbers.length - 1));
        }

        /** Leaves the remainder here, which is neither of the two; by 0 nothing is taken off. */
        void divideBy(Polynomial divisor, Polynomial quotient) {
            quotient.clear();
            int low = divisor.degree;
            if (low < 0 || degree < low || degree - low >= quotient.numbers.length) {
                return;
            }
            int inverse = inverseOf(divisor.numbers[low]);
            quotient.degree = degree - low;
            for (int shift = degree - low; shift >= 0; shift--) {
                int factor = numbers[shift + low] * inverse % MODULUS;
                quotient.numbers[shift] = factor;
                int less = MODULUS - factor;
                for (int power = 0; power <= low; power++) {
                    numbers[shift + power] = (numbers[shift + power] + less * divisor.numbers[power]) % MODULUS;
                }
            }
            findDegree(low - 1);
        }

        private void findDegree(int highest) {
            degree = highest;
            while (degree >= 0 && numbers[degree] == 0) {
                degree--;
            }
        }
    }

    /** Division of polynomials with a degree of at most 12, again and again. */
    private static final class Divider {
        private final Polynomial left;
        private final Polynomial right;
        private final Polynomial quotient;

        Divider() {
            left = new Polynomial(FORM_POWERS);
            right = new Polynomial(FORM_POWERS);
            quotient = new Polynomial(FORM_POWERS);
        }

        /** Makes one the monic greatest common divisor of both (0 if both are 0). */
        void shrinkToCommon(Polynomial one, Polynomial other) {
            left.copyFrom(one);
            right.copyFrom(other);
            Polynomial high = left;
            Polynomial low = right;
            for (int step = 0; step <= FORM_POWERS && low.degree >= 0; step++) {
                high.divideBy(low, quotient);
                Polynomial rest = high;
                high = low;
                low = rest;
            }
            one.copyFrom(high);
            one.makeMonic();
        }

        void writeQuotient(Polynomial result, Polynomial whole, Polynomial divisor) {
            left.copyFrom(whole);
            left.divideBy(divisor, quotient);
            result.copyFrom(quotient);
        }

        int howOften(Polynomial divisor, Polynomial whole) {
            left.copyFrom(whole);
            for (int times = 0; times < FORM_POWERS; times++) {
                left.divideBy(divisor, quotient);
                if (left.degree >= 0) {
                    return times;
                }
                left.copyFrom(quotient);
            }
            return FORM_POWERS;
        }
    }

    /** Four polynomials side by side; a narrower matrix leaves the last ones 0. */
    private static final class Row {
        private final Polynomial[] cells;

        Row(int powers) {
            cells = new Polynomial[SIDE];
            for (int j = 0; j < SIDE; j++) {
                cells[j] = new Polynomial(powers);
            }
        }

        void clear() {
            for (int j = 0; j < SIDE; j++) {
                cells[j].clear();
            }
        }

        void copyFrom(Row other) {
            for (int j = 0; j < SIDE; j++) {
                cells[j].copyFrom(other.cells[j]);
            }
        }

        /** Takes so often the other row off that the column has a lower degree here than there. */
        void lowerBy(Row other, int column, Polynomial quotient) {
            cells[column].divideBy(other.cells[column], quotient);
            for (int j = column + 1; j < SIDE; j++) {
                cells[j].addProduct(MODULUS - 1, quotient, other.cells[j]);
            }
        }

        void makeMonicAt(int column) {
            Polynomial pivot = cells[column];
            int factor = inverseOf(pivot.numberAt(pivot.degree));
            for (int j = column; j < SIDE; j++) {
                cells[j].multiply(factor);
            }
        }
    }

    /** Always four rows of four: what lies outside a smaller matrix is 0 and changes no minor. */
    private static final class Matrix {
        private final Row[] rows;

        Matrix(int powers) {
            rows = new Row[SIDE];
            for (int i = 0; i < SIDE; i++) {
                rows[i] = new Row(powers);
            }
        }

        void clear() {
            for (int i = 0; i < SIDE; i++) {
                rows[i].clear();
            }
        }

        Polynomial cell(int i, int j) {
            return rows[i].cells[j];
        }
    }

    /**
     * The determinants of all choices of rows and as many columns, a choice being a set of bits.
     * With divisor k the common divisor of all those of k rows, the Smith form has divisor k + 1
     * divided by divisor k at (k, k): so no degree ever grows above that of a minor.
     */
    private static final class Minors {
        private final Polynomial[] minors;
        private final Polynomial[] divisors;
        private final Polynomial[] invariants;
        private final Divider divider;

        /** How many rows the greatest minor has that isn't 0. */
        private int order;

        Minors() {
            minors = new Polynomial[1 << (2 * SIDE)];
            Polynomial none = new Polynomial(1);
            for (int index = 0; index < minors.length; index++) {
                int lines = Integer.bitCount(index >> SIDE);
                boolean square = lines == Integer.bitCount(index & ALL_LINES);
                minors[index] = square ? new Polynomial(FORM_POWERS) : none;
            }
            divisors = new Polynomial[SIDE + 1];
            for (int lines = 0; lines <= SIDE; lines++) {
                divisors[lines] = new Polynomial(FORM_POWERS);
            }
            invariants = new Polynomial[SIDE];
            for (int i = 0; i < SIDE; i++) {
                invariants[i] = new Polynomial(FORM_POWERS);
            }
            divider = new Divider();
            order = 0;
        }

        Polynomial of(int rowSet, int columnSet) {
            return minors[(rowSet & ALL_LINES) << SIDE | columnSet & ALL_LINES];
        }

        /** That of the first rows and columns. */
        Polynomial leading(int lines) {
            int set = (1 << lines) - 1;
            return of(set, set);
        }

        void reckon(Matrix matrix) {
            of(0, 0).setNumber(0, 1);
            for (int lines = 0; lines <= SIDE; lines++) {
                divisors[lines].clear();
            }
            divisors[0].setNumber(0, 1);
            // A set without one of its bits is a smaller number, so its minors are there already.
            for (int rowSet = 1; rowSet <= ALL_LINES; rowSet++) {
                int lines = Integer.bitCount(rowSet);
                for (int columnSet = 1; columnSet <= ALL_LINES; columnSet++) {
                    if (Integer.bitCount(columnSet) == lines) {
                        expand(matrix, rowSet, columnSet);
                        divider.shrinkToCommon(divisors[lines], of(rowSet, columnSet));
                    }
                }
            }
            findInvariants();
        }

        private void expand(Matrix matrix, int rowSet, int columnSet) {
            Polynomial sum = of(rowSet, columnSet);
            sum.clear();
            int row = lowestIn(rowSet);
            int sign = 1;
            for (int column = 0; column < SIDE; column++) {
                if ((columnSet >> column & 1) == 1) {
                    Polynomial rest = of(rowSet & ~(1 << row), columnSet & ~(1 << column));
                    sum.addProduct(sign, matrix.cell(row, column), rest);
                    sign = MODULUS - sign;
                }
            }
        }

        private static int lowestIn(int set) {
            int line = 0;
            while (line < SIDE - 1 && (set >> line & 1) == 0) {
                line++;
            }
            return line;
        }

        private void findInvariants() {
            order = 0;
            for (int k = 0; k < SIDE; k++) {
                invariants[k].clear();
                if (divisors[k + 1].degree >= 0) {
                    divider.writeQuotient(invariants[k], divisors[k + 1], divisors[k]);
                    order = k + 1;
                }
            }
        }
    }

    /**
     * The Hermite form, built by putting in one row after the other. After each the form of the
     * rows so far stands, for its entries have a degree of at most 12: so what is reckoned with
     * never grows far above that.
     */
    private static final class Echelon {
        /**
         * With r rows in (r at most 3) entries have degrees up to 3 r. A new one, of degrees up to
         * 3, gains at most 3 r at each of r pivots: 30 in all, as do the rows that it passes. Then
         * rows that stand already take at most 12 more in each of three further columns: 66.
         */
        private static final int POWERS = 67;

        /** Slot c has the row whose pivot is in column c: slots in their order are the form. */
        private final Row[] slots;
        private final boolean[] slotFull;
        private final Polynomial quotient;
        private Row incoming;

        Echelon() {
            slots = new Row[SIDE];
            for (int c = 0; c < SIDE; c++) {
                slots[c] = new Row(POWERS);
            }
            slotFull = new boolean[SIDE];
            quotient = new Polynomial(POWERS);
            incoming = new Row(POWERS);
        }

        void reckon(Matrix matrix) {
            for (int c = 0; c < SIDE; c++) {
                slotFull[c] = false;
            }
            for (int i = 0; i < SIDE; i++) {
                incoming.copyFrom(matrix.rows[i]);
                insert();
                reduce();
            }
        }

        void writeTo(Matrix form) {
            form.clear();
            int next = 0;
            for (int c = 0; c < SIDE; c++) {
                if (slotFull[c]) {
                    form.rows[next].copyFrom(slots[c]);
                    next++;
                }
            }
        }

        private void insert() {
            for (int c = 0; c < SIDE; c++) {
                if (!slotFull[c] && incoming.cells[c].degree >= 0) {
                    exchange(c);
                    slotFull[c] = true;
                    return;
                }
                // Euclid's way: the slot keeps the common divisor, the incoming row gets 0.
                for (int step = 0; step < POWERS && incoming.cells[c].degree >= 0; step++) {
                    slots[c].lowerBy(incoming, c, quotient);
                    exchange(c);
                }
            }
        }

        private void exchange(int c) {
            Row slot = slots[c];
            slots[c] = incoming;
            incoming = slot;
        }

        /** From below, so that the rows that are taken off are of low degrees already. */
        private void reduce() {
            for (int r = SIDE - 1; r >= 0; r--) {
                if (slotFull[r]) {
                    slots[r].makeMonicAt(r);
                    for (int c = r + 1; c < SIDE; c++) {
                        if (slotFull[c]) {
                            slots[r].lowerBy(slots[c], c, quotient);
                        }
                    }
                }
            }
        }
    }

    /**
     * The roots of a polynomial with a degree of at most 4. Trying all 32003 numbers would cost
     * some hundred times more than splitting it by powers of x and a shift.
     */
    private static final class Roots {
        /** Products of two remainders have a degree of at most 6. */
        private static final int POWERS = 7;
        private static final int EXPONENT_BITS = 15;

        private final int[] values;
        private int found;
        private final Polynomial[] parts;
        private int partCount;
        private final Polynomial base;
        private final Polynomial power;
        private final Polynomial product;
        private final Polynomial quotient;
        private final Divider divider;

        Roots() {
            values = new int[SIDE];
            parts = new Polynomial[SIDE];
            for (int k = 0; k < SIDE; k++) {
                parts[k] = new Polynomial(POWERS);
            }
            base = new Polynomial(POWERS);
            power = new Polynomial(POWERS);
            product = new Polynomial(POWERS);
            quotient = new Polynomial(POWERS);
            divider = new Divider();
        }

        void reckon(Polynomial whole) {
            found = 0;
            partCount = 0;
            if (whole.degree < 1) {
                return;
            }
            // x to the power of 32003, less x, has every number as a root, each once.
            raise(0, MODULUS, whole);
            power.setNumber(1, Math.floorMod(power.numberAt(1) - 1, MODULUS));
            parts[0].copyFrom(whole);
            divider.shrinkToCommon(parts[0], power);
            int wanted = parts[0].degree;
            partCount = wanted > 0 ? 1 : 0;
            // Of two roots one plus some shift is a square and the other isn't: shifts suffice.
            for (int shift = 0; shift < MODULUS && partCount < wanted; shift++) {
                for (int k = 0; k < SIDE; k++) {
                    if (k < partCount && parts[k].degree > 1) {
                        split(parts[k], shift);
                    }
                }
            }
            for (int k = 0; k < partCount; k++) {
                insert(negative(parts[k].numberAt(0)));
            }
        }

        /** Takes those roots into a part of their own that are, with the shift, squares but not 0. */
        private void split(Polynomial part, int shift) {
            raise(shift, (MODULUS - 1) / 2, part);
            power.setNumber(0, Math.floorMod(power.numberAt(0) - 1, MODULUS));
            divider.shrinkToCommon(power, part);
            if (power.degree > 0 && power.degree < part.degree && partCount < SIDE) {
                parts[partCount].copyFrom(power);
                partCount++;
                divider.writeQuotient(part, part, power);
            }
        }

        /** Sets power to (x + shift) to the exponent, less multiples of the modulus. */
        private void raise(int shift, int exponent, Polynomial modulus) {
            base.setNumber(0, shift);
            base.setNumber(1, 1);
            power.clear();
            power.setNumber(0, 1);
            for (int bit = EXPONENT_BITS - 1; bit >= 0; bit--) {
                product.clear();
                product.addProduct(1, power, power);
                product.divideBy(modulus, quotient);
                power.clear();
                if ((exponent >> bit & 1) == 1) {
                    power.addProduct(1, product, base);
                    power.divideBy(modulus, quotient);
                } else {
                    power.copyFrom(product);
                }
            }
        }

        private void insert(int value) {
            if (found >= SIDE) {
                return;
            }
            int place = found;
            while (place > 0 && values[place - 1] > value) {
                values[place] = values[place - 1];
                place--;
            }
            values[place] = value;
            found++;
        }
    }
}
