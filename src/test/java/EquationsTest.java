/** Promises 1 to 5, and what promise 13 says of set: the equations themselves. */
final class EquationsTest {
    private static final int MIN = Integer.MIN_VALUE;
    private static final int MAX = Integer.MAX_VALUE;

    public static void main(String[] args) {
        newObjectHasNoEquations();
        objectsShareNothing();
        addTakesFiveDigits();
        addTakesDigitsWithoutSign();
        addSwitchesOn();
        addWhenFull();
        setAnswersTheOldNumber();
        setCountsModuloSeven();
        setChangesOneNumberAlone();
        setWithWrongArguments();
        turnSwitches();
        turnWithWrongEquation();
        dropTakesTheLast();
        dropForgets();
        Check.end();
    }

    private static void newObjectHasNoEquations() {
        ModSolver x = new ModSolver();
        Check.same("new: set", x.set(0, 0, 1), ModSolver.BAD_EQUATION);
        Check.same("new: turn", x.turn(0, true), ModSolver.BAD_EQUATION);
        Check.same("new: drop", x.drop(), ModSolver.BAD_EQUATION);
        Check.same("new: solutions", x.solutions(), 2401);
        Check.same("new: possible", x.possible(3), 127);
        Check.same("new: fixed", x.fixed(0), false);
        Check.same("new: follows", x.follows(0), false);
        Check.same("new: needed", x.needed(), 0);
        Check.same("new: add", x.add(0), 0);
    }

    private static void objectsShareNothing() {
        ModSolver x = new ModSolver();
        x.add(Digits.of(1, 0, 0, 0, 3));
        ModSolver y = new ModSolver();
        Check.same("second object: solutions", y.solutions(), 2401);
        Check.same("second object: add", y.add(Digits.of(0, 0, 0, 0, 1)), 0);
        Check.same("first object: solutions", x.solutions(), 343);
        numbersAre("first object", x, 0, 1, 0, 0, 0, 3);
    }

    private static void addTakesFiveDigits() {
        ModSolver x = new ModSolver();
        Check.same("add 1", x.add(Digits.of(1, 2, 3, 4, 5)), 0);
        Check.same("add 2", x.add(Digits.of(6, 0, 6, 0, 6)), 1);
        Check.same("add 3, seven digits", x.add(Digits.of(5, 4, 3, 2, 1, 6, 6)), 2);
        Check.same("add 4, 7 to the 5th", x.add(16807), 3);
        Check.same("add 5, the greatest five digits", x.add(16806), 4);
        numbersAre("add 1", x, 0, 1, 2, 3, 4, 5);
        numbersAre("add 2", x, 1, 6, 0, 6, 0, 6);
        numbersAre("add 3", x, 2, 5, 4, 3, 2, 1);
        numbersAre("add 4", x, 3, 0, 0, 0, 0, 0);
        numbersAre("add 5", x, 4, 6, 6, 6, 6, 6);
    }

    // 2147483647 ends in the digits 1, 1, 1, 6, 1 in base 7, the lowest one last.
    private static void addTakesDigitsWithoutSign() {
        ModSolver x = new ModSolver();
        Check.same("add(-1)", x.add(-1), 0);
        Check.same("add(MAX)", x.add(MAX), 1);
        Check.same("add(MIN)", x.add(MIN), 2);
        Check.same("add(MIN + 12345)", x.add(MIN + 12345), 3);
        Check.same("add(-2)", x.add(-2), 4);
        numbersAre("add(-1)", x, 0, 1, 6, 1, 1, 1);
        numbersAre("add(MAX)", x, 1, 1, 6, 1, 1, 1);
        numbersAre("add(MIN)", x, 2, 0, 0, 0, 0, 0);
        numbersAre("add(MIN + 12345)", x, 3, 4, 6, 6, 0, 5);
        numbersAre("add(-2)", x, 4, 0, 6, 1, 1, 1);
    }

    private static void addSwitchesOn() {
        ModSolver x = new ModSolver();
        x.add(Digits.of(1, 0, 0, 0, 3));
        Check.same("add: the equation counts", x.solutions(), 343);
        Check.same("add: it was on", x.turn(0, false), 1);
        x.drop();
        x.add(Digits.of(1, 0, 0, 0, 3));
        Check.same("add in the place of one that was off", x.solutions(), 343);
        Check.same("add in its place: it was on", x.turn(0, true), 1);
    }

    private static void addWhenFull() {
        ModSolver x = new ModSolver();
        for (int i = 0; i < 6; i++) {
            Check.same("add number " + i, x.add(Digits.of(i, 1, 0, 0, i)), i);
        }
        x.turn(5, false);
        int before = x.solutions();
        Check.same("add a seventh", x.add(Digits.of(0, 0, 0, 0, 1)), ModSolver.FULL);
        Check.same("add a seventh again", x.add(-1), ModSolver.FULL);
        Check.same("full: solutions", x.solutions(), before);
        Check.same("full: no seventh", x.set(6, 0, 1), ModSolver.BAD_EQUATION);
        Check.same("full: the sixth is off", x.turn(5, false), 0);
        for (int i = 0; i < 6; i++) {
            numbersAre("full", x, i, i, 1, 0, 0, i);
        }
        Check.same("full: drop", x.drop(), 5);
        Check.same("full: room again", x.add(0), 5);
        Check.same("full: and none again", x.add(0), ModSolver.FULL);
    }

    private static void setAnswersTheOldNumber() {
        ModSolver x = new ModSolver();
        x.add(Digits.of(1, 2, 3, 4, 5));
        for (int place = 0; place < 5; place++) {
            Check.same("set place " + place, x.set(0, place, 6 - place), place + 1);
            Check.same("set place " + place + " again", x.set(0, place, 0), 6 - place);
        }
        x.set(0, 2, 1);
        x.set(0, 4, 4);
        Check.same("set counts in solutions", x.solutions(), 343);
        Check.same("set counts in possible", x.possible(2), 1 << 4);
    }

    private static void setCountsModuloSeven() {
        int[] values = {-1, -6, -7, -8, -14, 6, 7, 8, 13, 14, MIN, MIN + 1, MAX, MAX - 1};
        int[] counted = {6, 1, 0, 6, 0, 6, 0, 1, 6, 0, 5, 6, 1, 0};
        ModSolver x = new ModSolver();
        x.add(0);
        for (int i = 0; i < values.length; i++) {
            x.set(0, i % 5, values[i]);
            Check.same("set to " + values[i], x.set(0, i % 5, 0), counted[i]);
        }
    }

    private static void setChangesOneNumberAlone() {
        ModSolver x = new ModSolver();
        for (int i = 0; i < 6; i++) {
            x.add(Digits.of(1, 2, 3, 4, 5));
        }
        x.turn(2, false);
        x.set(2, 4, 0);
        x.set(3, 0, 6);
        Check.same("set leaves the one that is off so", x.turn(2, false), 0);
        Check.same("set leaves the one that is on so", x.turn(3, true), 1);
        numbersAre("set's neighbour", x, 1, 1, 2, 3, 4, 5);
        numbersAre("set in place 4", x, 2, 1, 2, 3, 4, 0);
        numbersAre("set in place 0", x, 3, 6, 2, 3, 4, 5);
        numbersAre("set's neighbour", x, 4, 1, 2, 3, 4, 5);
    }

    private static void setWithWrongArguments() {
        ModSolver x = new ModSolver();
        x.add(Digits.of(1, 2, 3, 4, 5));
        x.add(Digits.of(5, 4, 3, 2, 1));
        for (int equation : new int[] {-1, 2, 5, 6, MIN, MAX}) {
            Check.same("set equation " + equation, x.set(equation, 0, 6), ModSolver.BAD_EQUATION);
            Check.same("set both wrong, below", x.set(equation, -1, 6), ModSolver.BAD_EQUATION);
            Check.same("set both wrong, above", x.set(equation, 5, 6), ModSolver.BAD_EQUATION);
        }
        for (int place : new int[] {-1, 5, 6, -5, MIN, MAX}) {
            Check.same("set place " + place, x.set(0, place, 6), ModSolver.BAD_UNKNOWN);
            Check.same("set place " + place, x.set(1, place, 6), ModSolver.BAD_UNKNOWN);
        }
        numbersAre("after wrong sets", x, 0, 1, 2, 3, 4, 5);
        numbersAre("after wrong sets", x, 1, 5, 4, 3, 2, 1);
        Check.same("after wrong sets: drop", x.drop(), 1);
    }

    private static void turnSwitches() {
        ModSolver x = new ModSolver();
        x.add(Digits.of(1, 0, 0, 0, 3));
        x.add(Digits.of(0, 1, 0, 0, 4));
        Check.same("turn on what is on", x.turn(0, true), 1);
        Check.same("both on", x.solutions(), 49);
        Check.same("turn off what is on", x.turn(0, false), 1);
        Check.same("one on", x.solutions(), 343);
        Check.same("the other one on", x.possible(1), 1 << 4);
        Check.same("turn off what is off", x.turn(0, false), 0);
        Check.same("still one on", x.solutions(), 343);
        Check.same("turn on what is off", x.turn(0, true), 0);
        Check.same("both on again", x.solutions(), 49);
        Check.same("and it was on", x.turn(0, true), 1);
        numbersAre("after turns", x, 0, 1, 0, 0, 0, 3);
    }

    private static void turnWithWrongEquation() {
        ModSolver x = new ModSolver();
        x.add(Digits.of(1, 0, 0, 0, 3));
        x.add(Digits.of(0, 1, 0, 0, 4));
        x.turn(1, false);
        for (int equation : new int[] {-1, 2, 5, 6, MIN, MAX}) {
            Check.same("turn on " + equation, x.turn(equation, true), ModSolver.BAD_EQUATION);
            Check.same("turn off " + equation, x.turn(equation, false), ModSolver.BAD_EQUATION);
        }
        Check.same("after wrong turns", x.solutions(), 343);
        Check.same("after wrong turns: 0", x.turn(0, true), 1);
        Check.same("after wrong turns: 1", x.turn(1, false), 0);
    }

    private static void dropTakesTheLast() {
        ModSolver x = new ModSolver();
        x.add(Digits.of(1, 0, 0, 0, 1));
        x.add(Digits.of(0, 1, 0, 0, 2));
        x.add(Digits.of(0, 0, 1, 0, 3));
        x.turn(0, false);
        Check.same("drop one of three", x.drop(), 2);
        Check.same("the second one stays", x.possible(1), 1 << 2);
        Check.same("the third one is out", x.possible(2), 127);
        Check.same("no third: set", x.set(2, 0, 0), ModSolver.BAD_EQUATION);
        Check.same("no third: turn", x.turn(2, true), ModSolver.BAD_EQUATION);
        Check.same("no third: follows", x.follows(2), false);
        Check.same("the first is off", x.turn(0, false), 0);
        Check.same("the second is on", x.turn(1, true), 1);
        Check.same("drop one of two", x.drop(), 1);
        Check.same("drop the one", x.drop(), 0);
        Check.same("drop none", x.drop(), ModSolver.BAD_EQUATION);
        Check.same("drop none again", x.drop(), ModSolver.BAD_EQUATION);
        Check.same("all out", x.solutions(), 2401);
        Check.same("add after all are out", x.add(0), 0);
    }

    private static void dropForgets() {
        ModSolver x = new ModSolver();
        x.add(Digits.of(6, 6, 6, 6, 6));
        x.drop();
        Check.same("add in its place", x.add(Digits.of(0, 0, 2)), 0);
        numbersAre("in its place", x, 0, 0, 0, 2, 0, 0);
    }

    // Reads each number by a set that is undone at once: no call only reads them.
    private static void numbersAre(String what, ModSolver x, int equation, int... want) {
        for (int place = 0; place < 5; place++) {
            int got = x.set(equation, place, 0);
            Check.same(what + ": number " + place + " of equation " + equation, got, want[place]);
            x.set(equation, place, got);
        }
    }
}
