/** The class and the model side by side: every call goes to both, and their answers are compared. */
final class Pair {
    private final Check check;
    private final String name;
    private final NormalForms program = new NormalForms();
    private final PlainModel model = new PlainModel();
    private int calls = 0;

    Pair(Check check, String name) {
        this.check = check;
        this.name = name;
    }

    /** After that many calls nothing is promised any more. */
    boolean usedUp() {
        return calls >= 512;
    }

    private void compare(String call, Check.Call ofProgram, Check.Call ofModel) {
        calls++;
        if (calls > 512) {
            throw new AssertionError(name + " calls too often");
        }
        check.equal(name + ", call " + calls + ": " + call, Check.outcome(ofProgram), Check.outcome(ofModel));
    }

    void size(int rows, int columns) {
        compare("size(" + rows + ", " + columns + ")",
                () -> { program.size(rows, columns); return 0; },
                () -> { model.size(rows, columns); return 0; });
    }

    void put(int i, int j, int power, int v) {
        compare("put(" + i + ", " + j + ", " + power + ", " + v + ")",
                () -> Check.counted(program.put(i, j, power, v)),
                () -> Check.counted(model.put(i, j, power, v)));
    }

    void entry(int i, int j, int power) {
        compare("entry(" + i + ", " + j + ", " + power + ")",
                () -> program.entry(i, j, power), () -> model.entry(i, j, power));
    }

    void make(int form) {
        compare("make(" + form + ")", () -> program.make(form), () -> model.make(form));
    }

    void degree(int form, int i, int j) {
        compare("degree(" + form + ", " + i + ", " + j + ")",
                () -> program.degree(form, i, j), () -> model.degree(form, i, j));
    }

    void at(int form, int i, int j, int power) {
        compare("at(" + form + ", " + i + ", " + j + ", " + power + ")",
                () -> program.at(form, i, j, power), () -> model.at(form, i, j, power));
    }

    void rank() {
        compare("rank()", program::rank, model::rank);
    }

    void determinant(int power) {
        compare("determinant(" + power + ")", () -> program.determinant(power), () -> model.determinant(power));
    }

    void characteristic(int power) {
        compare("characteristic(" + power + ")",
                () -> program.characteristic(power), () -> model.characteristic(power));
    }

    void minimal(int power) {
        compare("minimal(" + power + ")", () -> program.minimal(power), () -> model.minimal(power));
    }

    void root(int k) {
        compare("root(" + k + ")", () -> program.root(k), () -> model.root(k));
    }

    void blocks(int k, int n) {
        compare("blocks(" + k + ", " + n + ")", () -> program.blocks(k, n), () -> model.blocks(k, n));
    }

    void count(int which) {
        compare("count(" + which + ")", () -> program.count(which), () -> model.count(which));
    }
}
