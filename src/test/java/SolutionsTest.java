/** Promises 6 to 10, and what promise 13 says of rank: the solutions and their order. */
final class SolutionsTest {
    private static final int MIN = Integer.MIN_VALUE;
    private static final int MAX = Integer.MAX_VALUE;

    public static void main(String[] args) {
        solutionsAreCounted();
        solutionsUseEveryNumber();
        solutionsAreOrdered();
        valueWithinAnEquation();
        valueWithWrongArguments();
        possibleValues();
        fixedUnknowns();
        rankWithoutEquations();
        rankBetweenSolutions();
        rankTakesFourDigitsWithoutSign();
        Check.end();
    }

    private static void solutionsAreCounted() {
        ModSolver x = new ModSolver();
        Check.same("no equation", x.solutions(), 2401);
        x.add(0);
        Check.same("0 = 0", x.solutions(), 2401);
        x.add(Digits.of(1, 2, 3, 4, 5));
        Check.same("one equation", x.solutions(), 343);
        x.add(Digits.of(2, 4, 6, 1, 3));
        Check.same("and its double", x.solutions(), 343);
        x.add(Digits.of(0, 1, 0, 0, 6));
        Check.same("two equations", x.solutions(), 49);
        x.add(Digits.of(0, 0, 1, 6, 0));
        Check.same("three equations", x.solutions(), 7);
        x.add(Digits.of(0, 0, 1, 1, 1));
        Check.same("four equations", x.solutions(), 1);
        x.set(0, 4, 1);
        Check.same("with 0 = 1", x.solutions(), 0);
        x.turn(0, false);
        Check.same("with 0 = 1 off", x.solutions(), 1);
    }

    // 1 * 2 + 2 * 3 + 3 * 4 + 4 * 6 = 44, which is 2 modulo 7; the four others pin the point (2, 3, 4, 6).
    private static void solutionsUseEveryNumber() {
        ModSolver x = new ModSolver();
        x.add(Digits.of(1, 0, 0, 0, 2));
        x.add(Digits.of(0, 1, 0, 0, 3));
        x.add(Digits.of(0, 0, 1, 0, 4));
        x.add(Digits.of(0, 0, 0, 1, 6));
        x.add(Digits.of(1, 2, 3, 4, 0));
        for (int e = 0; e < 7; e++) {
            x.set(4, 4, e);
            Check.same("sum is " + e, x.solutions(), e == 2 ? 1 : 0);
        }
    }

    private static void solutionsAreOrdered() {
        ModSolver x = new ModSolver();
        valuesAre("first of all", x, 0, 0, 0, 0, 0);
        valuesAre("next", x, 1, 0, 0, 0, 1);
        valuesAre("seventh", x, 7, 0, 0, 1, 0);
        valuesAre("49th", x, 49, 0, 1, 0, 0);
        valuesAre("343rd", x, 343, 1, 0, 0, 0);
        valuesAre("one of all", x, 343 * 2 + 49 * 3 + 7 * 5 + 4, 2, 3, 5, 4);
        valuesAre("last of all", x, 2400, 6, 6, 6, 6);
        valuesAre("beyond all", x, 2401, -4, -4, -4, -4);
    }

    private static void valueWithinAnEquation() {
        ModSolver x = new ModSolver();
        x.add(Digits.of(1, 1, 0, 0, 1));
        valuesAre("x0 + x1 = 1, first", x, 0, 0, 1, 0, 0);
        valuesAre("x0 + x1 = 1, 48", x, 48, 0, 1, 6, 6);
        valuesAre("x0 + x1 = 1, 49", x, 49, 1, 0, 0, 0);
        valuesAre("x0 + x1 = 1, 98", x, 98, 2, 6, 0, 0);
        valuesAre("x0 + x1 = 1, last", x, 342, 6, 2, 6, 6);
        valuesAre("x0 + x1 = 1, beyond", x, 343, -4, -4, -4, -4);
        x.add(Digits.of(0, 0, 3, 1, 2));
        valuesAre("and 3 * x2 + x3 = 2", x, 1, 0, 1, 1, 6);
        valuesAre("and 3 * x2 + x3 = 2", x, 9, 1, 0, 2, 3);
        valuesAre("and 3 * x2 + x3 = 2, beyond", x, 49, -4, -4, -4, -4);
        x.add(Digits.of(0, 0, 0, 0, 1));
        valuesAre("no solution", x, 0, -4, -4, -4, -4);
    }

    private static void valueWithWrongArguments() {
        ModSolver x = new ModSolver();
        for (int n : new int[] {-1, -2401, 2401, 2402, MIN, MAX}) {
            Check.same("value of solution " + n, x.value(n, 0), ModSolver.NONE);
            Check.same("value of solution " + n, x.value(n, 4), ModSolver.NONE);
        }
        for (int unknown : new int[] {-1, 4, 5, -4, MIN, MAX}) {
            Check.same("value of unknown " + unknown, x.value(0, unknown), ModSolver.NONE);
            Check.same("value of unknown " + unknown, x.value(2400, unknown), ModSolver.NONE);
        }
    }

    private static void possibleValues() {
        ModSolver x = new ModSolver();
        possibleAre("no equation", x, 127, 127, 127, 127);
        x.add(Digits.of(2, 0, 0, 0, 3));
        possibleAre("2 * x0 = 3", x, 1 << 5, 127, 127, 127);
        x.add(Digits.of(0, 1, 1, 0, 6));
        possibleAre("x1 + x2 = 6", x, 1 << 5, 127, 127, 127);
        x.add(Digits.of(0, 1, 6, 0, 6));
        possibleAre("x1 - x2 = 6", x, 1 << 5, 1 << 6, 1, 127);
        x.add(Digits.of(0, 0, 0, 1, 1));
        possibleAre("x3 = 1", x, 1 << 5, 1 << 6, 1, 1 << 1);
        x.add(Digits.of(0, 0, 0, 1, 2));
        possibleAre("x3 = 2", x, 0, 0, 0, 0);
        x.turn(4, false);
        for (int unknown : new int[] {-1, 4, 5, -4, MIN, MAX}) {
            Check.same("possible of unknown " + unknown, x.possible(unknown), 0);
        }
    }

    private static void fixedUnknowns() {
        ModSolver x = new ModSolver();
        fixedAre("no equation", x, 0b0000);
        x.add(Digits.of(0, 3, 0, 0, 0));
        fixedAre("3 * x1 = 0", x, 0b0010);
        x.add(Digits.of(1, 1, 0, 1, 4));
        fixedAre("x0 + x1 + x3 = 4", x, 0b0010);
        x.add(Digits.of(1, 0, 0, 2, 4));
        fixedAre("x0 + 2 * x3 = 4", x, 0b1011);
        x.add(Digits.of(0, 0, 1, 0, 6));
        fixedAre("x2 = 6", x, 0b1111);
        for (int unknown : new int[] {-1, 4, 5, -4, MIN, MAX}) {
            Check.same("fixed of unknown " + unknown, x.fixed(unknown), false);
        }
        x.add(Digits.of(0, 0, 1, 0, 5));
        fixedAre("x2 = 5", x, 0b0000);
    }

    private static void rankWithoutEquations() {
        ModSolver x = new ModSolver();
        Check.same("rank of the first", x.rank(0), 0);
        Check.same("rank by unknown 3", x.rank(Digits.of(0, 0, 0, 1)), 1);
        Check.same("rank by unknown 2", x.rank(Digits.of(0, 0, 1, 0)), 7);
        Check.same("rank by unknown 1", x.rank(Digits.of(0, 1, 0, 0)), 49);
        Check.same("rank by unknown 0", x.rank(Digits.of(1, 0, 0, 0)), 343);
        Check.same("rank of the last", x.rank(Digits.of(6, 6, 6, 6)), 2400);
    }

    private static void rankBetweenSolutions() {
        ModSolver x = new ModSolver();
        x.add(Digits.of(1, 1, 0, 0, 1));
        Check.same("rank far before the first", x.rank(0), 0);
        Check.same("rank just before the first", x.rank(Digits.of(0, 0, 6, 6)), 0);
        Check.same("rank of the first", x.rank(Digits.of(0, 1, 0, 0)), 0);
        Check.same("rank of the second", x.rank(Digits.of(0, 1, 0, 1)), 1);
        Check.same("rank behind a row", x.rank(Digits.of(0, 2, 0, 0)), 49);
        Check.same("rank of a later one", x.rank(Digits.of(1, 0, 0, 1)), 50);
        Check.same("rank of the last", x.rank(Digits.of(6, 2, 6, 6)), 342);
        Check.same("rank just behind the last", x.rank(Digits.of(6, 3, 0, 0)), 343);
        Check.same("rank far behind the last", x.rank(Digits.of(6, 6, 6, 6)), 343);
        x.add(Digits.of(0, 0, 0, 0, 4));
        Check.same("rank without solutions", x.rank(Digits.of(6, 6, 6, 6)), 0);
    }

    // 2147483647 ends in the digits 1, 1, 6, 1 in base 7, the lowest one last.
    private static void rankTakesFourDigitsWithoutSign() {
        ModSolver x = new ModSolver();
        Check.same("rank of 7 to the 4th", x.rank(2401), 0);
        Check.same("rank with a fifth digit", x.rank(Digits.of(1, 2, 3, 4, 5)), 343 + 98 + 21 + 4);
        Check.same("rank with six digits more", x.rank(Digits.of(6, 5, 4, 3, 6, 6, 6, 6, 6, 6)), 2058 + 245 + 28 + 3);
        Check.same("rank(-1)", x.rank(-1), 343 + 6 * 49 + 7 + 1);
        Check.same("rank(MAX)", x.rank(MAX), 343 + 6 * 49 + 7 + 1);
        Check.same("rank(MIN)", x.rank(MIN), 0);
        Check.same("rank(MIN + 7)", x.rank(MIN + 7), 49);
    }

    private static void valuesAre(String what, ModSolver x, int n, int... want) {
        for (int unknown = 0; unknown < 4; unknown++) {
            Check.same(what + ": value(" + n + ", " + unknown + ")", x.value(n, unknown), want[unknown]);
        }
    }

    private static void possibleAre(String what, ModSolver x, int... want) {
        for (int unknown = 0; unknown < 4; unknown++) {
            Check.same(what + ": possible(" + unknown + ")", x.possible(unknown), want[unknown]);
        }
    }

    // Bit u of want: unknown u is fixed.
    private static void fixedAre(String what, ModSolver x, int want) {
        for (int unknown = 0; unknown < 4; unknown++) {
            Check.same(what + ": fixed(" + unknown + ")", x.fixed(unknown), (want >> unknown & 1) == 1);
        }
    }
}
