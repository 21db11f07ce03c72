/** Objects in states that differ in what matters at the edges; each is made anew, so that twins can be compared. */
final class Samples {
    static final int COUNT = 7;
    /** How many equations each of them has. */
    private static final int[] SIZES = {0, 1, 3, 3, 6, 6, 2};

    private Samples() {
    }

    static int size(int sample) {
        return SIZES[sample];
    }

    static ModSolver make(int sample) {
        ModSolver x = new ModSolver();
        switch (sample) {
            case 0:
                break;
            case 1:
                add(x, Digits.of(1, 2, 3, 4, 5));
                break;
            case 2:
                add(x, Digits.of(1, 1, 0, 0, 3), Digits.of(0, 3, 0, 1, 6), Digits.of(0, 0, 2, 0, 5));
                x.turn(1, false);
                break;
            case 3:
                add(x, Digits.of(1, 1, 0, 0, 3), Digits.of(2, 2, 0, 0, 1), Digits.of(5, 6, 4, 3, 2));
                break;
            case 4:
                add(x, Digits.of(1, 1, 0, 0, 3), Digits.of(2, 2, 0, 0, 6), Digits.of(0, 0, 1, 5, 2));
                add(x, Digits.of(1, 6, 0, 0, 4), Digits.of(0, 0, 0, 0, 0), Digits.of(0, 0, 0, 4, 1));
                x.turn(5, false);
                break;
            case 5:
                add(x, Digits.of(6, 5, 4, 3, 2), Digits.of(0, 1, 2, 3, 4), Digits.of(0, 0, 0, 0, 3));
                add(x, Digits.of(1, 0, 0, 0, 0), Digits.of(0, 1, 0, 0, 0), Digits.of(0, 0, 1, 0, 0));
                x.turn(0, false);
                break;
            default:
                add(x, Digits.of(3, 0, 0, 1, 2), Digits.of(0, 4, 1, 0, 1), Digits.of(6, 6, 6, 6, 6));
                x.turn(2, false);
                x.turn(0, false);
                x.drop();
                break;
        }
        return x;
    }

    private static void add(ModSolver x, int... equations) {
        for (int digits : equations) {
            x.add(digits);
        }
    }
}
