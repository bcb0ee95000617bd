/** Whole matrices of many kinds: all that can be asked of them, against the model. */
public final class MatricesTest {
    private static final int P = PlainModel.P;
    private static final Check check = new Check();

    public static void main(String[] args) {
        Check.Dice dice = new Check.Dice(20261115);
        for (int round = 0; round < 700; round++) {
            int rows = round % 3 == 0 ? 4 : dice.below(5);
            int columns = round % 4 == 3 ? dice.below(5) : rows;
            int kind = round % KINDS;
            long[][][] matrix = ofKind(kind, rows, columns, dice);
            String name = "matrix " + round + " of kind " + kind;
            askNumbers(name, rows, columns, matrix);
            for (int form = 0; form < 3; form++) {
                askForm(name, rows, columns, matrix, form);
            }
        }
        check.finish();
    }

    private static Pair filled(String name, int rows, int columns, long[][][] matrix) {
        Pair pair = new Pair(check, name);
        pair.size(rows, columns);
        for (int i = 0; i < rows; i++) {
            for (int j = 0; j < columns; j++) {
                for (int power = 0; power < matrix[i][j].length; power++) {
                    pair.put(i, j, power, (int) matrix[i][j][power]);
                }
            }
        }
        return pair;
    }

    private static void askNumbers(String name, int rows, int columns, long[][][] matrix) {
        Pair pair = filled(name, rows, columns, matrix);
        pair.rank();
        for (int power = -1; power < 14; power++) {
            pair.determinant(power);
        }
        for (int power = -1; power < 7; power++) {
            pair.characteristic(power);
            pair.minimal(power);
        }
        for (int k = -1; k < 6; k++) {
            pair.root(k);
            for (int n = 0; n < 7; n++) {
                pair.blocks(k, n);
            }
        }
        for (int which = -1; which < 4; which++) {
            pair.count(which);
        }
    }

    private static void askForm(String name, int rows, int columns, long[][][] matrix, int form) {
        Pair pair = filled(name, rows, columns, matrix);
        pair.make(form);
        pair.count(2);
        for (int i = 0; i < rows; i++) {
            for (int j = 0; j < columns; j++) {
                pair.degree(form, i, j);
                for (int power = -1; power < 14; power++) {
                    pair.at(form, i, j, power);
                }
            }
        }
    }

    private static final int KINDS = 10;

    private static long[][][] ofKind(int kind, int rows, int columns, Check.Dice dice) {
        switch (kind) {
            case 0: return random(rows, columns, 3, 100, P, dice);
            case 1: return random(rows, columns, 3, 40, P, dice);
            case 2: return random(rows, columns, 1, 70, 3, dice);
            case 3: return product(random(rows, 2, 1, 80, P, dice), random(2, columns, 2, 80, P, dice), columns);
            case 4: return product(random(rows, 3, 2, 90, 5, dice), random(3, columns, 1, 90, 5, dice), columns);
            case 5: return product(diagonal(rows, dice), random(rows, columns, 1, 80, P, dice), columns);
            case 6: return invertible(rows, columns, dice);
            case 7: return likeBlocks(rows, columns, dice);
            case 8: return random(rows, columns, 0, 60, 4, dice);
            default: return product(random(rows, 1, 1, 90, 7, dice), random(1, columns, 2, 90, 7, dice), columns);
        }
    }

    private static long[][][] random(int rows, int columns, int degree, int percent, int bound, Check.Dice dice) {
        long[][][] result = new long[rows][columns][degree + 1];
        for (int i = 0; i < rows; i++) {
            for (int j = 0; j < columns; j++) {
                for (int power = 0; power <= degree; power++) {
                    result[i][j][power] = dice.below(100) < percent ? dice.below(bound) : 0;
                }
                result[i][j] = PlainModel.trimmed(result[i][j]);
            }
        }
        return result;
    }

    /** Products of few linear factors, so that entries have common divisors. */
    private static long[][][] diagonal(int side, Check.Dice dice) {
        long[][][] result = random(side, side, 0, 0, 1, dice);
        for (int i = 0; i < side; i++) {
            long[] polynomial = {1 + dice.below(P - 1)};
            int factors = dice.below(3);
            for (int k = 0; k < factors; k++) {
                polynomial = PlainModel.times(polynomial, new long[] {dice.below(2), 1});
            }
            result[i][i] = polynomial;
        }
        return result;
    }

    private static long[][][] product(long[][][] a, long[][][] b, int columns) {
        long[][][] result = new long[a.length][columns][0];
        for (int i = 0; i < a.length; i++) {
            for (int j = 0; j < columns; j++) {
                for (int k = 0; k < b.length; k++) {
                    long[] less = PlainModel.scaled(PlainModel.times(a[i][k], b[k][j]), P - 1);
                    result[i][j] = PlainModel.minus(result[i][j], less);
                }
            }
        }
        return result;
    }

    /** Numbers at (i, i), then rows put onto others while the degrees stay below 4. */
    private static long[][][] invertible(int rows, int columns, Check.Dice dice) {
        long[][][] result = random(rows, columns, 0, 0, 1, dice);
        for (int i = 0; i < Math.min(rows, columns); i++) {
            result[i][i] = new long[] {1 + dice.below(P - 1)};
        }
        for (int step = 0; step < 12 && rows > 1; step++) {
            int target = dice.below(rows);
            int source = (target + 1 + dice.below(rows - 1)) % rows;
            long[] factor = PlainModel.trimmed(new long[] {dice.below(P), dice.below(3), dice.below(2)});
            long[][] changed = new long[columns][];
            boolean fits = true;
            for (int j = 0; j < columns; j++) {
                changed[j] = PlainModel.minus(result[target][j], PlainModel.times(factor, result[source][j]));
                fits &= changed[j].length <= 4;
            }
            if (fits) {
                result[target] = changed;
            }
        }
        return result;
    }

    /** Few roots, 1 next to some of them, then rows put onto others and columns taken off. */
    private static long[][][] likeBlocks(int rows, int columns, Check.Dice dice) {
        long[][] m = new long[rows][columns];
        int[] values = {0, dice.below(P), P - 1};
        for (int i = 0; i < Math.min(rows, columns); i++) {
            m[i][i] = values[dice.below(10) < 6 ? 0 : dice.below(3)];
            if (i > 0 && dice.below(2) == 0) {
                m[i - 1][i] = 1;
            }
        }
        for (int step = 0; step < 8 && rows > 1 && rows == columns; step++) {
            int one = dice.below(rows);
            int other = (one + 1 + dice.below(rows - 1)) % rows;
            long factor = dice.below(P);
            for (int j = 0; j < rows; j++) {
                m[one][j] = (m[one][j] + factor * m[other][j]) % P;
            }
            for (int i = 0; i < rows; i++) {
                m[i][other] = Math.floorMod(m[i][other] - factor * m[i][one], P);
            }
        }
        long[][][] result = new long[rows][columns][2];
        for (int i = 0; i < rows; i++) {
            for (int j = 0; j < columns; j++) {
                result[i][j][0] = m[i][j];
                result[i][j][1] = dice.below(4) == 0 ? 1 : 0;
            }
        }
        return result;
    }
}
