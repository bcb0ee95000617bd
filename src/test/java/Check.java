import java.util.Objects;

/** What the tests share: calls whose answers are compared, and numbers that look random. */
final class Check {
    /** A call of the class; a boolean counts 1 or 0, a call without an answer 0. */
    interface Call {
        long answer();
    }

    private int wrong = 0;
    private int asked = 0;

    static long counted(boolean answer) {
        return answer ? 1 : 0;
    }

    /** The answer as a text, or the name of what the call throws. */
    static String outcome(Call call) {
        try {
            return Long.toString(call.answer());
        } catch (RuntimeException thrown) {
            return "throws." + thrown.getClass().getSimpleName();
        }
    }

    void equal(String what, Object got, Object due) {
        asked++;
        if (!Objects.equals(got, due)) {
            wrong++;
            System.out.println(what + " answered " + got + ", due is " + due);
        }
    }

    void answers(String what, Call call, long due) {
        equal(what, outcome(call), Long.toString(due));
    }

    /** The exception must be of just this class and come from a throw statement of the program. */
    void throwing(String what, Class<? extends RuntimeException> due, Call call) {
        asked++;
        try {
            long got = call.answer();
            wrong++;
            System.out.println(what + " answered " + got + ", due is throws." + due.getSimpleName());
        } catch (RuntimeException thrown) {
            String text = thrown.getMessage();
            boolean machine = text == null || text.matches("-?[0-9]+|Index .*|.*by zero.*|Cannot .*");
            if (thrown.getClass() != due || machine) {
                wrong++;
                System.out.println(what + " threw " + thrown + ", due is throws." + due.getSimpleName());
            }
        }
    }

    /** An entry of a form must have just these numbers (none: it is 0). */
    void form(String what, NormalForms x, int form, int i, int j, int... numbers) {
        String place = what + ", form " + form + " at (" + i + ", " + j + ")";
        answers(place + " degree", () -> x.degree(form, i, j), numbers.length - 1);
        for (int power = -1; power <= 13; power++) {
            int p = power;
            int due = power < 0 || power >= numbers.length ? 0 : Math.floorMod(numbers[power], 32003);
            answers(place + " power " + power, () -> x.at(form, i, j, p), due);
        }
    }

    void finish() {
        System.out.println(asked + " answers compared, " + wrong + " of them wrong");
        if (wrong != 0) {
            System.exit(1);
        }
    }

    /** The same numbers in every run. */
    static final class Dice {
        private long state;

        Dice(long seed) {
            state = seed;
        }

        int below(int bound) {
            state = state * 6364136223846793005L + 1442695040888963407L;
            return (int) ((state >>> 33) % bound);
        }
    }
}
