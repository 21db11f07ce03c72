/** Promises 11 and 12: which equations follow, and how many are needed. */
final class NeedTest {
    private static final int NOTHING = 0;
    private static final int NEVER = Digits.of(0, 0, 0, 0, 3);

    public static void main(String[] args) {
        followsWithSolutions();
        followsWithoutSolutions();
        followsWithWrongEquation();
        neededWithSolutions();
        neededWithoutSolutions();
        neededLooksAtEveryChoice();
        neededLooksAtWhatIsOn();
        Check.end();
    }

    private static void followsWithSolutions() {
        ModSolver x = made(x0(1), x1(2), sum(3), sum(4), Digits.of(2, 0, 0, 0, 2), NOTHING);
        for (int equation = 2; equation < 6; equation++) {
            x.turn(equation, false);
        }
        followsAre("x0 = 1, x1 = 2", x, true, true, true, false, true, true);
        x.turn(1, false);
        followsAre("x0 = 1", x, true, false, false, false, true, true);
        x.turn(0, false);
        followsAre("none on", x, false, false, false, false, false, true);
        x.turn(4, true);
        followsAre("2 * x0 = 2", x, true, false, false, false, true, true);
        x.turn(3, true);
        followsAre("and x0 + x1 = 4", x, true, false, false, true, true, true);
    }

    private static void followsWithoutSolutions() {
        ModSolver x = made(x0(1), x0(2), sum(5), NEVER);
        x.turn(2, false);
        x.turn(3, false);
        followsAre("x0 = 1, x0 = 2", x, true, true, true, true);
        Check.same("without solutions, no such equation", x.follows(4), false);
        x.turn(1, false);
        followsAre("x0 = 1", x, true, false, false, false);
    }

    private static void followsWithWrongEquation() {
        ModSolver x = made(NOTHING, NOTHING);
        for (int equation : new int[] {-1, 2, 5, 6, Integer.MIN_VALUE, Integer.MAX_VALUE}) {
            Check.same("follows " + equation, x.follows(equation), false);
        }
        x.drop();
        Check.same("follows after drop", x.follows(1), false);
        Check.same("follows before it", x.follows(0), true);
    }

    private static void neededWithSolutions() {
        neededIs("no equation", 0);
        neededIs("0 = 0", 0, NOTHING, NOTHING);
        neededIs("one", 1, x0(1));
        neededIs("one twice", 1, x0(1), x0(1));
        neededIs("one six times", 1, x0(1), x0(1), x0(1), x0(1), x0(1), x0(1));
        neededIs("one and its double", 1, x0(1), Digits.of(2, 0, 0, 0, 2));
        neededIs("two and their sum", 2, x0(1), x1(2), sum(3));
        neededIs("two, their sum and 0 = 0", 2, NOTHING, sum(3), x1(2), x0(1));
        neededIs("four", 4, x0(1), x1(1), Digits.of(0, 0, 1, 0, 1), Digits.of(0, 0, 0, 1, 1));
        neededIs("four of six", 4, x0(1), x1(1), sum(2), Digits.of(1, 1, 1, 0, 3), Digits.of(0, 0, 1, 0, 1),
            Digits.of(0, 0, 0, 1, 1));
    }

    private static void neededWithoutSolutions() {
        int x2 = Digits.of(0, 0, 1, 0, 0);
        int x3 = Digits.of(0, 0, 0, 1, 0);
        int all = Digits.of(1, 1, 1, 1, 1);
        neededIs("0 = 3", 1, NEVER);
        neededIs("0 = 3 six times", 1, NEVER, NEVER, NEVER, NEVER, NEVER, NEVER);
        neededIs("0 = 3 among others", 1, x0(1), x1(2), sum(4), NEVER);
        neededIs("two against each other", 2, x0(1), x0(2));
        neededIs("three against each other", 3, x0(1), x1(2), sum(4));
        neededIs("five against each other", 5, x0(0), x1(0), x2, x3, all);
        neededIs("five, one of them twice", 5, x0(0), x1(0), x2, x3, all, x0(0));
    }

    // Leaving out one equation after the other ends at three here, from the one side or from the other.
    private static void neededLooksAtEveryChoice() {
        neededIs("the pair at the ends", 2, x0(1), x1(1), sum(3), x0(2));
        neededIs("the pair first", 2, x0(1), x0(2), x1(1), sum(3));
        neededIs("the pair last", 2, sum(3), x1(1), x0(2), x0(1));
        neededIs("the pair between", 2, sum(3), x0(2), x0(1), x1(1));
    }

    private static void neededLooksAtWhatIsOn() {
        ModSolver x = made(NEVER, x0(1), x0(2), x1(1), sum(3));
        Check.same("0 = 3 on", x.needed(), 1);
        x.turn(0, false);
        Check.same("0 = 3 off", x.needed(), 2);
        x.turn(2, false);
        Check.same("three on", x.needed(), 3);
        x.turn(4, false);
        Check.same("two on", x.needed(), 2);
        x.turn(3, false);
        Check.same("one on", x.needed(), 1);
        x.turn(1, false);
        Check.same("none on", x.needed(), 0);
        x.turn(4, true);
        x.drop();
        Check.same("the one on dropped", x.needed(), 0);
    }

    private static int x0(int e) {
        return Digits.of(1, 0, 0, 0, e);
    }

    private static int x1(int e) {
        return Digits.of(0, 1, 0, 0, e);
    }

    private static int sum(int e) {
        return Digits.of(1, 1, 0, 0, e);
    }

    private static ModSolver made(int... equations) {
        ModSolver x = new ModSolver();
        for (int digits : equations) {
            x.add(digits);
        }
        return x;
    }

    private static void neededIs(String what, int want, int... equations) {
        Check.same("needed, " + what, made(equations).needed(), want);
    }

    private static void followsAre(String what, ModSolver x, boolean... want) {
        for (int equation = 0; equation < want.length; equation++) {
            Check.same(what + ": follows(" + equation + ")", x.follows(equation), want[equation]);
        }
    }
}
