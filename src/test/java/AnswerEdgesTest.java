/** The sentences of promises 6 to 12, and of promise 13 for rank, that name a boundary: one test for each. */
final class AnswerEdgesTest {
    private static final int MIN = Integer.MIN_VALUE;
    private static final int MAX = Integer.MAX_VALUE;
    private static final int[] WRONG_UNKNOWNS = {-1, -2, -4, 4, 5, 6, 7, 32, MIN, MIN + 1, MAX};
    private static final int LAST = Digits.of(6, 6, 6, 6);

    public static void main(String[] args) {
        solutionsFromNoneToAll();
        valueFirstAndLast();
        valueNoSuchSolution();
        valueNoSuchUnknown();
        possibleNoneToAll();
        possibleNoSuchUnknown();
        fixedInTheOnlySolution();
        fixedAndThereIsOne();
        fixedNoSuchUnknown();
        rankOfSolutions();
        rankOfOtherPoints();
        rankWithoutSign();
        rankBeyondFourDigits();
        followsOnOrOff();
        followsWithoutSolutions();
        followsNoSuchEquation();
        neededOfNone();
        neededOfThoseOn();
        neededWithoutGaining();
        neededWithoutSolutions();
        Check.end();
    }

    // Promise 6: "How many solutions there are (0 to 2401)."
    private static void solutionsFromNoneToAll() {
        Check.same("promise 6: no equation", made().solutions(), 2401);
        Check.same("promise 6: 0 = 0 six times", made(0, 0, 0, 0, 0, 0).solutions(), 2401);
        for (int e = 1; e <= 6; e++) {
            Check.same("promise 6: 0 = " + e, made(never(e)).solutions(), 0);
        }
        Check.same("promise 6: one solution", pinned(6, 6, 6, 6).solutions(), 1);
        Check.same("promise 6: one solution", pinned(0, 0, 0, 0).solutions(), 1);
        ModSolver x = pinned(0, 0, 0, 0);
        x.add(Digits.of(1, 1, 1, 1, 1));
        Check.same("promise 6: none by the fifth", x.solutions(), 0);
        for (int equation = 0; equation < 5; equation++) {
            x.turn(equation, false);
        }
        Check.same("promise 6: all off", x.solutions(), 2401);
    }

    // Promise 7: "in solution number n, from 0 in the order of solutions"
    private static void valueFirstAndLast() {
        valuesAre("promise 7: first of all", made(), 0, 0, 0, 0, 0);
        valuesAre("promise 7: second of all", made(), 1, 0, 0, 0, 1);
        valuesAre("promise 7: last of all", made(), 2400, 6, 6, 6, 6);
        valuesAre("promise 7: the only one", pinned(6, 0, 5, 1), 0, 6, 0, 5, 1);
        ModSolver x = made(Digits.of(1, 1, 1, 1, 0));
        valuesAre("promise 7: first", x, 0, 0, 0, 0, 0);
        valuesAre("promise 7: second", x, 1, 0, 0, 1, 6);
        valuesAre("promise 7: eighth", x, 7, 0, 1, 0, 6);
        valuesAre("promise 7: 50th", x, 49, 1, 0, 0, 6);
        valuesAre("promise 7: last", x, 342, 6, 6, 6, 3);
    }

    // Promise 7: "NONE if there is no such solution ..."
    private static void valueNoSuchSolution() {
        noSuchSolution(made(), 2401);
        noSuchSolution(made(Digits.of(1, 0, 0, 0, 1)), 343);
        noSuchSolution(made(Digits.of(1, 0, 0, 0, 1), Digits.of(0, 0, 0, 1, 6)), 49);
        noSuchSolution(pinned(1, 2, 3, 4), 1);
        noSuchSolution(made(never(1)), 0);
        noSuchSolution(made(Digits.of(1, 0, 0, 0, 1), Digits.of(2, 0, 0, 0, 1)), 0);
    }

    private static void noSuchSolution(ModSolver x, int solutions) {
        for (int unknown = 0; unknown < 4; unknown++) {
            for (int n : new int[] {-1, -2, -2401, MIN, MIN + 1, MAX, 2401, 2402, solutions, solutions + 1}) {
                Check.same("promise 7: solution " + n + " of " + solutions, x.value(n, unknown), ModSolver.NONE);
            }
            if (solutions > 0) {
                Check.same("promise 7: there is one before it", x.value(solutions - 1, unknown) >= 0, true);
            }
        }
    }

    // Promise 7: "NONE if there is no such ... unknown."
    private static void valueNoSuchUnknown() {
        for (int unknown : WRONG_UNKNOWNS) {
            Check.same("promise 7: first, unknown " + unknown, made().value(0, unknown), ModSolver.NONE);
            Check.same("promise 7: last, unknown " + unknown, made().value(2400, unknown), ModSolver.NONE);
            Check.same("promise 7: only, unknown " + unknown, pinned(3, 3, 3, 3).value(0, unknown), ModSolver.NONE);
            Check.same("promise 7: both wrong", made().value(2401, unknown), ModSolver.NONE);
            Check.same("promise 7: both wrong", made().value(-1, unknown), ModSolver.NONE);
        }
    }

    // Promise 8: "The values that the unknown has in some solution, as a mask (bit v for value v)"
    private static void possibleNoneToAll() {
        for (int unknown = 0; unknown < 4; unknown++) {
            Check.same("promise 8: all values", made().possible(unknown), 127);
            for (int value = 0; value <= 6; value++) {
                int[] numbers = new int[5];
                numbers[unknown] = 1;
                numbers[4] = value;
                ModSolver x = made(Digits.of(numbers));
                Check.same("promise 8: the value " + value, x.possible(unknown), 1 << value);
                Check.same("promise 8: another unknown", x.possible((unknown + 1) % 4), 127);
                Check.same("promise 8: one solution", pinned(value, value, value, value).possible(unknown), 1 << value);
            }
            Check.same("promise 8: no solution", made(never(2)).possible(unknown), 0);
        }
    }

    // Promise 8: "0 if unknown is not in 0 to 3."
    private static void possibleNoSuchUnknown() {
        for (int unknown : WRONG_UNKNOWNS) {
            Check.same("promise 8: unknown " + unknown, made().possible(unknown), 0);
            Check.same("promise 8: unknown " + unknown, pinned(1, 2, 3, 4).possible(unknown), 0);
            Check.same("promise 8: unknown " + unknown, made(never(1)).possible(unknown), 0);
        }
    }

    // Promise 9: "Whether the unknown has the same value in all solutions"
    private static void fixedInTheOnlySolution() {
        for (int unknown = 0; unknown < 4; unknown++) {
            Check.same("promise 9: no equation", made().fixed(unknown), false);
            for (int value = 0; value <= 6; value++) {
                int[] numbers = new int[5];
                numbers[unknown] = 6;
                numbers[4] = value;
                ModSolver x = made(Digits.of(numbers));
                Check.same("promise 9: 6 * x" + unknown + " = " + value, x.fixed(unknown), true);
                Check.same("promise 9: another unknown", x.fixed((unknown + 1) % 4), false);
                Check.same("promise 9: one solution", pinned(value, value, value, value).fixed(unknown), true);
            }
        }
    }

    // Promise 9: "and there is one"
    private static void fixedAndThereIsOne() {
        ModSolver x = pinned(0, 1, 2, 3);
        x.add(never(1));
        ModSolver y = made(Digits.of(0, 1, 0, 0, 1), Digits.of(0, 1, 0, 0, 2));
        for (int unknown = 0; unknown < 4; unknown++) {
            Check.same("promise 9: 0 = 1 alone", made(never(1)).fixed(unknown), false);
            Check.same("promise 9: 0 = 1 with others", x.fixed(unknown), false);
            Check.same("promise 9: two against each other", y.fixed(unknown), false);
        }
        x.turn(4, false);
        for (int unknown = 0; unknown < 4; unknown++) {
            Check.same("promise 9: there is one again", x.fixed(unknown), true);
        }
    }

    // Promise 9: "false if unknown is not in 0 to 3."
    private static void fixedNoSuchUnknown() {
        for (int unknown : WRONG_UNKNOWNS) {
            Check.same("promise 9: unknown " + unknown, made().fixed(unknown), false);
            Check.same("promise 9: unknown " + unknown, pinned(0, 0, 0, 0).fixed(unknown), false);
            Check.same("promise 9: unknown " + unknown, pinned(1, 2, 3, 4).fixed(unknown), false);
            Check.same("promise 9: unknown " + unknown, made(never(1)).fixed(unknown), false);
        }
    }

    // Promise 10: "How many solutions come before (w, x, y, z) in the order", where it is one: it doesn't count itself.
    private static void rankOfSolutions() {
        Check.same("promise 10: first of all", made().rank(0), 0);
        Check.same("promise 10: last of all", made().rank(LAST), 2400);
        Check.same("promise 10: w is unknown 0", made().rank(Digits.of(1, 0, 0, 0)), 343);
        Check.same("promise 10: x is unknown 1", made().rank(Digits.of(0, 1, 0, 0)), 49);
        Check.same("promise 10: y is unknown 2", made().rank(Digits.of(0, 0, 1, 0)), 7);
        Check.same("promise 10: z is unknown 3", made().rank(Digits.of(0, 0, 0, 1)), 1);
        ModSolver x = made(Digits.of(1, 0, 0, 3, 2), Digits.of(0, 1, 5, 0, 4));
        for (int n = 0; n < 49; n++) {
            int digits = Digits.of(x.value(n, 0), x.value(n, 1), x.value(n, 2), x.value(n, 3));
            Check.same("promise 10: of solution " + n, x.rank(digits), n);
        }
    }

    // Promise 10: "whether that is a solution or not"
    private static void rankOfOtherPoints() {
        ModSolver x = pinned(3, 0, 6, 2);
        Check.same("promise 10: far before it", x.rank(0), 0);
        Check.same("promise 10: just before it", x.rank(Digits.of(3, 0, 6, 1)), 0);
        Check.same("promise 10: itself", x.rank(Digits.of(3, 0, 6, 2)), 0);
        Check.same("promise 10: just behind it", x.rank(Digits.of(3, 0, 6, 3)), 1);
        Check.same("promise 10: behind it by y and z", x.rank(Digits.of(3, 1, 0, 0)), 1);
        Check.same("promise 10: behind it by w", x.rank(Digits.of(4, 0, 0, 0)), 1);
        Check.same("promise 10: before it by w", x.rank(Digits.of(2, 6, 6, 6)), 0);
        Check.same("promise 10: far behind it", x.rank(LAST), 1);
        ModSolver y = made(Digits.of(0, 0, 0, 1, 3));
        Check.same("promise 10: between two", y.rank(Digits.of(0, 0, 0, 4)), 1);
        Check.same("promise 10: between two", y.rank(Digits.of(0, 0, 1, 0)), 1);
        Check.same("promise 10: behind all", y.rank(LAST), 343);
        Check.same("promise 10: no solution, first", made(never(1)).rank(0), 0);
        Check.same("promise 10: no solution, last", made(never(1)).rank(LAST), 0);
    }

    // Promise 10: "the digits of 'digits' in base 7 as in add": without sign.
    // In base 7, the lowest digit last, 2147483647 ends in 1, 1, 6, 1.
    private static void rankWithoutSign() {
        int most = 1 * 343 + 6 * 49 + 1 * 7 + 1;
        Check.same("promise 10: MAX", made().rank(MAX), most);
        Check.same("promise 10: -1", made().rank(-1), most);
        Check.same("promise 10: -2", made().rank(-2), most - 343);
        Check.same("promise 10: MIN", made().rank(MIN), 0);
        Check.same("promise 10: MIN + 1", made().rank(MIN + 1), 343);
        Check.same("promise 10: MIN + 2400", made().rank(MIN + 2400), 2400);
    }

    // Promise 13: "rank: what lies beyond four digits is not looked at."
    private static void rankBeyondFourDigits() {
        Check.same("promise 13: 7 to the 4th", made().rank(2401), 0);
        Check.same("promise 13: 7 to the 4th and 1", made().rank(2402), 343);
        Check.same("promise 13: five digits", made().rank(Digits.of(0, 0, 0, 0, 6)), 0);
        Check.same("promise 13: five digits", made().rank(Digits.of(6, 6, 6, 6, 6)), 2400);
        Check.same("promise 13: six digits", made().rank(Digits.of(0, 0, 0, 2, 0, 6)), 2);
        Check.same("promise 13: ten digits", made().rank(Digits.of(0, 0, 3, 0, 1, 2, 3, 4, 5, 6)), 21);
        ModSolver x = made(Digits.of(1, 0, 0, 0, 1));
        Check.same("promise 13: with an equation", x.rank(Digits.of(1, 0, 0, 5, 6)), 5);
        Check.same("promise 13: without sign", x.rank(MIN + Digits.of(1, 0, 0, 5, 6)), 5);
    }

    // Promise 11: "Whether the equation, on or off, holds in every solution"
    private static void followsOnOrOff() {
        ModSolver x = made(x0(1), x1(2), Digits.of(3, 3, 0, 0, 2), Digits.of(1, 1, 0, 0, 4), 0, never(1));
        x.turn(5, false);
        x.turn(3, false);
        followsAre("promise 11: on, but for two", x, true, true, true, false, true, false);
        x.turn(2, false);
        x.turn(4, false);
        followsAre("promise 11: off, and follows", x, true, true, true, false, true, false);
        x.turn(1, false);
        followsAre("promise 11: off, and doesn't", x, true, false, false, false, true, false);
        x.turn(2, true);
        followsAre("promise 11: off, by two others", x, true, true, true, false, true, false);
        x.turn(0, false);
        x.turn(2, false);
        followsAre("promise 11: all off", x, false, false, false, false, true, false);
    }

    // Promise 11: "(also if there are none)"
    private static void followsWithoutSolutions() {
        ModSolver x = made(never(1), x0(1), Digits.of(1, 2, 3, 4, 5), 0, x0(2), never(6));
        x.turn(1, false);
        x.turn(2, false);
        x.turn(5, false);
        followsAre("promise 11: 0 = 1 is on", x, true, true, true, true, true, true);
        x.turn(0, false);
        followsAre("promise 11: 0 = 1 is off", x, false, false, false, true, true, false);
        x.turn(1, true);
        followsAre("promise 11: two against each other", x, true, true, true, true, true, true);
    }

    // Promise 11: "false if it doesn't exist."
    private static void followsNoSuchEquation() {
        for (int sample = 0; sample < Samples.COUNT; sample++) {
            int size = Samples.size(sample);
            for (int equation : new int[] {-1, -6, size, size + 1, 6, 7, MIN, MIN + 1, MAX}) {
                boolean got = Samples.make(sample).follows(equation);
                Check.same("promise 11: sample " + sample + ", equation " + equation, got, false);
            }
        }
        ModSolver x = made(never(1), 0);
        Check.same("promise 11: no solution, the last", x.follows(1), true);
        Check.same("promise 11: no solution, beyond it", x.follows(2), false);
        x.drop();
        Check.same("promise 11: no solution, dropped", x.follows(1), false);
    }

    // Promise 12: "The least number of equations that one can leave on": none, where none keeps a point out.
    private static void neededOfNone() {
        Check.same("promise 12: no equation", made().needed(), 0);
        Check.same("promise 12: 0 = 0", made(0).needed(), 0);
        Check.same("promise 12: 0 = 0 six times", made(0, 0, 0, 0, 0, 0).needed(), 0);
    }

    // Promise 12: "of those that are on"
    private static void neededOfThoseOn() {
        ModSolver x = made(never(1), x0(1), x1(1), Digits.of(1, 1, 0, 0, 2), x0(2), Digits.of(1, 1, 1, 1, 0));
        Check.same("promise 12: 0 = 1 on", x.needed(), 1);
        x.turn(0, false);
        Check.same("promise 12: 0 = 1 off", x.needed(), 2);
        x.turn(4, false);
        Check.same("promise 12: x0 = 2 off", x.needed(), 3);
        x.turn(5, false);
        Check.same("promise 12: the sixth off", x.needed(), 2);
        x.turn(1, false);
        Check.same("promise 12: two of three on", x.needed(), 2);
        x.turn(2, false);
        Check.same("promise 12: one on", x.needed(), 1);
        x.turn(3, false);
        Check.same("promise 12: all off", x.needed(), 0);
        x.turn(5, true);
        Check.same("promise 12: the sixth alone on", x.needed(), 1);
        x.drop();
        Check.same("promise 12: it dropped", x.needed(), 0);
    }

    // Promise 12: "without gaining a solution"
    private static void neededWithoutGaining() {
        Check.same("promise 12: one", made(x0(1)).needed(), 1);
        Check.same("promise 12: one in six tellings", made(x0(1), Digits.of(2, 0, 0, 0, 2), Digits.of(3, 0, 0, 0, 3),
            Digits.of(4, 0, 0, 0, 4), Digits.of(5, 0, 0, 0, 5), Digits.of(6, 0, 0, 0, 6)).needed(), 1);
        Check.same("promise 12: four", pinned(0, 0, 0, 0).needed(), 4);
        ModSolver x = pinned(1, 2, 3, 4);
        x.add(Digits.of(1, 1, 1, 1, 3));
        x.add(Digits.of(1, 2, 3, 4, 2));
        Check.same("promise 12: four of six", x.needed(), 4);
        for (int equation = 0; equation < 3; equation++) {
            x.turn(equation, false);
        }
        Check.same("promise 12: three of three", x.needed(), 3);
    }

    // Promise 12, where there is no solution: those left on must have none either.
    private static void neededWithoutSolutions() {
        Check.same("promise 12: 0 = 1", made(never(1)).needed(), 1);
        Check.same("promise 12: 0 = 6 as the last of six", made(x0(1), x1(1), x0(2), x1(2), 0, never(6)).needed(), 1);
        Check.same("promise 12: two of four", made(x0(1), x1(1), Digits.of(1, 1, 0, 0, 3), x0(2)).needed(), 2);
        Check.same("promise 12: three", made(x0(1), x1(1), Digits.of(1, 1, 0, 0, 3)).needed(), 3);
        ModSolver x = pinned(1, 2, 3, 4);
        x.add(Digits.of(1, 1, 1, 1, 4));
        Check.same("promise 12: five", x.needed(), 5);
        x.add(0);
        Check.same("promise 12: five of six", x.needed(), 5);
        x.set(5, 4, 1);
        Check.same("promise 12: then one of six", x.needed(), 1);
    }

    private static int x0(int e) {
        return Digits.of(1, 0, 0, 0, e);
    }

    private static int x1(int e) {
        return Digits.of(0, 1, 0, 0, e);
    }

    // 0 = e
    private static int never(int e) {
        return Digits.of(0, 0, 0, 0, e);
    }

    private static ModSolver made(int... equations) {
        ModSolver x = new ModSolver();
        for (int digits : equations) {
            x.add(digits);
        }
        return x;
    }

    // One solution alone.
    private static ModSolver pinned(int w, int x, int y, int z) {
        return made(x0(w), x1(x), Digits.of(0, 0, 1, 0, y), Digits.of(0, 0, 0, 1, z));
    }

    private static void valuesAre(String what, ModSolver x, int n, int... want) {
        for (int unknown = 0; unknown < 4; unknown++) {
            Check.same(what + ", unknown " + unknown, x.value(n, unknown), want[unknown]);
        }
    }

    private static void followsAre(String what, ModSolver x, boolean... want) {
        for (int equation = 0; equation < want.length; equation++) {
            Check.same(what + ", equation " + equation, x.follows(equation), want[equation]);
        }
    }
}
