/** Runs of 512 calls with all sorts of arguments, wrong ones among them, against the model. */
public final class RandomRunsTest {
    private static final Check check = new Check();
    private static final int[] FAR = {
        Integer.MIN_VALUE, Integer.MIN_VALUE + 1, -32003, -5, 5, 16, 32002, 32003, Integer.MAX_VALUE - 1, Integer.MAX_VALUE
    };

    public static void main(String[] args) {
        for (int run = 0; run < 60; run++) {
            Check.Dice dice = new Check.Dice(1000 + run);
            Pair pair = new Pair(check, "run " + run);
            while (!pair.usedUp()) {
                call(pair, dice);
            }
        }
        check.finish();
    }

    private static void call(Pair pair, Check.Dice dice) {
        switch (dice.below(40)) {
            case 0: pair.size(line(dice), line(dice)); break;
            case 1: { int side = dice.below(5); pair.size(side, side); break; }
            case 2: pair.rank(); break;
            case 3: pair.determinant(line(dice)); break;
            case 4: pair.characteristic(line(dice)); break;
            case 5: pair.minimal(line(dice)); break;
            case 6: pair.root(line(dice)); break;
            case 7: case 8: pair.blocks(line(dice), line(dice)); break;
            case 9: case 10: pair.count(line(dice)); break;
            case 11: case 12: case 13: pair.make(line(dice)); break;
            case 14: case 15: case 16: case 17: pair.degree(line(dice), line(dice), line(dice)); break;
            case 18: case 19: case 20: case 21: pair.at(line(dice), line(dice), line(dice), line(dice)); break;
            case 22: case 23: pair.entry(line(dice), line(dice), line(dice)); break;
            default: pair.put(line(dice), line(dice), line(dice), value(dice)); break;
        }
    }

    private static int line(Check.Dice dice) {
        int kind = dice.below(30);
        if (kind == 0) {
            return FAR[dice.below(FAR.length)];
        }
        return kind < 3 ? dice.below(7) - 1 : dice.below(4);
    }

    private static int value(Check.Dice dice) {
        int kind = dice.below(4);
        if (kind == 0) {
            return FAR[dice.below(FAR.length)];
        }
        return kind == 1 ? dice.below(64006) - 32003 : dice.below(3) - 1;
    }
}
