import java.util.ArrayList;
import java.util.List;

/**
 * The face, for promises 2 to 7 and 9 to 13: "Of several the one that stands first behind "throws"
 * is thrown; nothing changes." Each refused call is made on an object of each state, and then all
 * that can be asked must be answered as if the call had never been.
 */
public final class RefusalsTest {
    private static final int LEAST = Given.LEAST;
    private static final int MOST = Given.MOST;
    private static final Class<NegativeArraySizeException> NEGATIVE = NegativeArraySizeException.class;
    private static final Class<ArrayIndexOutOfBoundsException> INDEX = ArrayIndexOutOfBoundsException.class;
    private static final Class<IllegalArgumentException> ARGUMENT = IllegalArgumentException.class;
    private static final Class<IllegalStateException> STATE = IllegalStateException.class;

    private static final Check check = new Check();

    /** A new object with calls behind it, the same at each call. */
    private interface State {
        NormalForms begun();
    }

    private interface OnObject {
        long answer(NormalForms x);
    }

    /** A call, and what it must throw. */
    private static final class Refused {
        private final String name;
        private final Class<? extends RuntimeException> due;
        private final OnObject call;

        Refused(int promise, String name, Class<? extends RuntimeException> due, OnObject call) {
            this.name = "promise " + promise + ", " + name;
            this.due = due;
            this.call = call;
        }
    }

    public static void main(String[] args) {
        State[] states = {
            NormalForms::new,
            () -> Given.withForms(new NormalForms()),
            RefusalsTest::square,
            () -> oneForm(square(), 0),
            () -> oneForm(square(), 1),
            () -> oneForm(square(), 2),
            () -> Given.withForms(square()),
            () -> Given.sized(2, 2),
            () -> Given.withForms(Given.sized(2, 2)),
            RefusalsTest::wide,
            () -> Given.withForms(wide()),
            () -> Given.withForms(Given.sized(3, 0)),
            () -> Given.withForms(Given.sized(0, 3)),
        };
        for (int k = 0; k < states.length; k++) {
            String before = allThatIsTold(states[k].begun());
            for (Refused refused : refusedIn(states[k].begun())) {
                NormalForms x = states[k].begun();
                String what = refused.name + " in state " + k;
                check.throwing(what, refused.due, () -> refused.call.answer(x));
                check.throwing(what + " again", refused.due, () -> refused.call.answer(x));
                check.equal(what + ": nothing changes", allThatIsTold(x), before);
            }
        }
        check.finish();
    }

    /** (x^2 + 1, x^2; x^2, x^2 - 1), whose determinant is -1: every form can be made. */
    private static NormalForms square() {
        NormalForms x = Given.sized(2, 2);
        Given.polynomial(x, 0, 0, 1, 0, 1);
        Given.polynomial(x, 0, 1, 0, 0, 1);
        Given.polynomial(x, 1, 0, 0, 0, 1);
        Given.polynomial(x, 1, 1, -1, 0, 1);
        return x;
    }

    private static NormalForms wide() {
        NormalForms x = Given.sized(2, 3);
        Given.polynomial(x, 0, 1, 0, 4);
        Given.polynomial(x, 1, 1, 3, 2);
        Given.polynomial(x, 1, 2, 0, 0, 0, 7);
        return x;
    }

    private static NormalForms oneForm(NormalForms x, int form) {
        x.make(form);
        return x;
    }

    private static List<Refused> refusedIn(NormalForms x) {
        List<Refused> all = new ArrayList<>();
        int rows = x.count(0);
        int columns = x.count(1);
        addSizes(all);
        addEntries(all, rows, columns);
        for (int form : new int[] {-1, 3, LEAST, MOST}) {
            all.add(new Refused(5, "make(" + form + ")", ARGUMENT, y -> y.make(form)));
            addForm(all, form, ARGUMENT, 0, 0);
            addForm(all, form, ARGUMENT, rows, columns);
        }
        for (int form = 0; form < 3; form++) {
            boolean there = isThere(x, form);
            if (!there) {
                addForm(all, form, STATE, 0, 0);
            }
            addForm(all, form, there ? INDEX : STATE, rows, 0);
            addForm(all, form, there ? INDEX : STATE, -1, 0);
            addForm(all, form, there ? INDEX : STATE, 0, columns);
            addForm(all, form, there ? INDEX : STATE, 0, -1);
        }
        addSquares(all, rows == columns);
        return all;
    }

    private static boolean isThere(NormalForms x, int form) {
        return !Check.outcome(() -> x.degree(form, 0, 0)).equals("throws.IllegalStateException");
    }

    private static void addSizes(List<Refused> all) {
        int[][] below = {{-1, 2}, {2, -1}, {-1, 5}, {5, -1}, {LEAST, LEAST}};
        for (int[] s : below) {
            all.add(new Refused(2, "size(" + s[0] + ", " + s[1] + ")", NEGATIVE, y -> sized(y, s)));
        }
        int[][] above = {{5, 2}, {2, 5}, {0, 5}, {MOST, MOST}};
        for (int[] s : above) {
            all.add(new Refused(2, "size(" + s[0] + ", " + s[1] + ")", ARGUMENT, y -> sized(y, s)));
        }
    }

    private static long sized(NormalForms x, int[] sizes) {
        x.size(sizes[0], sizes[1]);
        return 0;
    }

    private static void addEntries(List<Refused> all, int rows, int columns) {
        int[][] wrong = {
            {-1, 0, 0}, {rows, 0, 0}, {0, -1, 0}, {0, columns, 0}, {0, 0, -1}, {0, 0, 4}, {rows, columns, 4},
            {LEAST, LEAST, LEAST}, {MOST, MOST, MOST}
        };
        for (int[] w : wrong) {
            String place = "(" + w[0] + ", " + w[1] + ", " + w[2] + ")";
            all.add(new Refused(3, "put" + place, INDEX, y -> Check.counted(y.put(w[0], w[1], w[2], 5))));
            all.add(new Refused(4, "entry" + place, INDEX, y -> y.entry(w[0], w[1], w[2])));
        }
    }

    private static void addForm(List<Refused> all, int form, Class<? extends RuntimeException> due, int i, int j) {
        String place = "(" + form + ", " + i + ", " + j + ")";
        all.add(new Refused(6, "degree" + place, due, y -> y.degree(form, i, j)));
        all.add(new Refused(7, "at" + place, due, y -> y.at(form, i, j, 0)));
        all.add(new Refused(7, "at" + place + ", no such power", due, y -> y.at(form, i, j, -1)));
    }

    private static void addSquares(List<Refused> all, boolean square) {
        int[][] wrong = {{-1, 1}, {4, 1}, {0, 0}, {0, -1}, {-1, 0}, {MOST, LEAST}};
        for (int[] w : wrong) {
            Class<? extends RuntimeException> due = square ? ARGUMENT : STATE;
            all.add(new Refused(13, "blocks(" + w[0] + ", " + w[1] + ")", due, y -> y.blocks(w[0], w[1])));
        }
        if (!square) {
            all.add(new Refused(9, "determinant(0)", STATE, y -> y.determinant(0)));
            all.add(new Refused(10, "characteristic(0)", STATE, y -> y.characteristic(0)));
            all.add(new Refused(11, "minimal(0)", STATE, y -> y.minimal(0)));
            all.add(new Refused(12, "root(0)", STATE, y -> y.root(0)));
            all.add(new Refused(12, "root(-1)", STATE, y -> y.root(-1)));
            all.add(new Refused(13, "blocks(0, 1)", STATE, y -> y.blocks(0, 1)));
        }
    }

    /** Less than 400 calls, as none has more than 2 rows and 3 columns. */
    private static String allThatIsTold(NormalForms x) {
        StringBuilder told = new StringBuilder();
        for (int which = 0; which < 3; which++) {
            int w = which;
            tell(told, "count", () -> x.count(w));
        }
        for (int k = 0; k < x.count(0) * x.count(1); k++) {
            tellPlace(told, x, k / x.count(1), k % x.count(1));
        }
        for (int form = 0; form < 3; form++) {
            int f = form;
            tell(told, "corner " + f, () -> x.degree(f, 0, 0));
        }
        tell(told, "rank", x::rank);
        for (int power = 0; power < 5; power++) {
            int p = power;
            tell(told, "determinant", () -> x.determinant(p));
            tell(told, "characteristic", () -> x.characteristic(p));
            tell(told, "minimal", () -> x.minimal(p));
        }
        for (int k = 0; k < 3; k++) {
            int root = k;
            tell(told, "root", () -> x.root(root));
            tell(told, "blocks of size 1", () -> x.blocks(root, 1));
            tell(told, "blocks of size 2", () -> x.blocks(root, 2));
        }
        return told.toString();
    }

    private static void tellPlace(StringBuilder told, NormalForms x, int i, int j) {
        for (int power = 0; power < 4; power++) {
            int p = power;
            tell(told, "entry", () -> x.entry(i, j, p));
        }
        for (int form = 0; form < 3; form++) {
            int f = form;
            tell(told, "degree " + f, () -> x.degree(f, i, j));
            for (int power = 0; power < 7; power++) {
                int p = power;
                tell(told, "at " + f, () -> x.at(f, i, j, p));
            }
        }
    }

    private static void tell(StringBuilder told, String what, Check.Call call) {
        told.append(what).append(' ').append(Check.outcome(call)).append("; ");
    }
}
