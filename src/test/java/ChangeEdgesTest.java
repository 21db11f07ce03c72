/** The sentences of promises 1 to 5, and of promise 13 for set, that name a boundary: one test for each. */
final class ChangeEdgesTest {
    private static final int MIN = Integer.MIN_VALUE;
    private static final int MAX = Integer.MAX_VALUE;
    private static final int[] WRONG_PLACES = {-1, -2, -5, 5, 6, 7, MIN, MIN + 1, MAX};

    public static void main(String[] args) {
        newObject();
        addTakesTheLowestDigitFirst();
        addWithoutSign();
        addBeyondFiveDigits();
        addToSix();
        addAnswersNumbersFromZero();
        addIsOnAgainAfterDrop();
        setPlaces();
        setOneNumberAlone();
        setModuloSeven();
        setNoSuchEquation();
        setNoSuchPlace();
        setBothWrong();
        turnNoSuchEquation();
        turnToWhatItIs();
        dropNone();
        dropToNone();
        Check.end();
    }

    // Promise 1: "No equations."
    private static void newObject() {
        ModSolver x = new ModSolver();
        Check.same("promise 1: solutions", x.solutions(), 2401);
        Check.same("promise 1: needed", x.needed(), 0);
        for (int equation = -1; equation <= 6; equation++) {
            Check.same("promise 1: follows " + equation, x.follows(equation), false);
            Check.same("promise 1: turn " + equation, x.turn(equation, true), ModSolver.BAD_EQUATION);
            Check.same("promise 1: set " + equation, x.set(equation, 0, 1), ModSolver.BAD_EQUATION);
        }
        Check.same("promise 1: drop", x.drop(), ModSolver.BAD_EQUATION);
        Check.same("promise 1: first add", x.add(16806), 0);
    }

    // Promise 2: "a = digits mod 7, b the next digit, and so on to e"
    private static void addTakesTheLowestDigitFirst() {
        int weight = 1;
        for (int place = 0; place < 5; place++) {
            for (int digit = 0; digit <= 6; digit++) {
                int[] want = new int[5];
                want[place] = digit;
                addGives("promise 2: digit " + place, digit * weight, want);
            }
            weight = weight * 7;
        }
        addGives("promise 2: least", 0, 0, 0, 0, 0, 0);
        addGives("promise 2: greatest of five digits", 16806, 6, 6, 6, 6, 6);
    }

    // Promise 2: "digits is taken as a number without sign: digits & 2147483647"
    // In base 7, the lowest digit last, 2147483647 ends in 1, 1, 1, 6, 1.
    private static void addWithoutSign() {
        addGives("promise 2: -1", -1, 1, 6, 1, 1, 1);
        addGives("promise 2: MAX", MAX, 1, 6, 1, 1, 1);
        addGives("promise 2: -2", -2, 0, 6, 1, 1, 1);
        addGives("promise 2: -3", -3, 6, 5, 1, 1, 1);
        addGives("promise 2: MIN", MIN, 0, 0, 0, 0, 0);
        addGives("promise 2: MIN + 1", MIN + 1, 1, 0, 0, 0, 0);
        addGives("promise 2: MIN + 16806", MIN + 16806, 6, 6, 6, 6, 6);
        addGives("promise 2: MIN + five digits", MIN + Digits.of(1, 2, 3, 4, 5), 1, 2, 3, 4, 5);
    }

    // Promise 2: "what lies beyond five digits is not looked at"
    private static void addBeyondFiveDigits() {
        addGives("promise 2: 7 to the 5th", 16807, 0, 0, 0, 0, 0);
        addGives("promise 2: 7 to the 5th and 1", 16808, 1, 0, 0, 0, 0);
        addGives("promise 2: 7 to the 10th", 282475249, 0, 0, 0, 0, 0);
        addGives("promise 2: a sixth digit", Digits.of(1, 2, 3, 4, 5, 6), 1, 2, 3, 4, 5);
        addGives("promise 2: ten digits", Digits.of(5, 4, 3, 2, 1, 6, 5, 4, 3, 6), 5, 4, 3, 2, 1);
        addGives("promise 2: ten digits below MIN's sign", MIN + Digits.of(5, 4, 3, 2, 1, 6, 5, 4, 3, 6), 5, 4, 3, 2, 1);
    }

    // Promise 2: "There are six: FULL, nothing changes."
    private static void addToSix() {
        for (int sample = 0; sample < Samples.COUNT; sample++) {
            ModSolver x = filled(sample);
            for (int digits : new int[] {0, 7203, 16806, 16807, -1, MIN, MAX}) {
                Check.same("promise 2: full, add " + digits, x.add(digits), ModSolver.FULL);
            }
            Check.same("promise 2: full, sample " + sample, Answers.of(x), Answers.of(filled(sample)));
        }
        ModSolver x = filled(0);
        Check.same("promise 2: room after drop", x.drop(), 5);
        Check.same("promise 2: the sixth again", x.add(1), 5);
        Check.same("promise 2: full again", x.add(1), ModSolver.FULL);
    }

    // Promise 2: "Else answers its number, from 0."
    private static void addAnswersNumbersFromZero() {
        ModSolver x = new ModSolver();
        for (int number = 0; number < 6; number++) {
            Check.same("promise 2: number", x.add(Digits.of(number + 1, 0, 0, 0, 0)), number);
            Check.same("promise 2: the number's own a", x.set(number, 0, number + 1), number + 1);
        }
    }

    // Promise 2: "Adds an equation, on." That it stands where one was that was off is no matter.
    private static void addIsOnAgainAfterDrop() {
        ModSolver x = filled(0);
        for (int equation = 5; equation >= 0; equation--) {
            x.turn(equation, false);
            x.drop();
        }
        for (int equation = 0; equation < 6; equation++) {
            x.add(Digits.of(1, 0, 0, 0, 2));
            Check.same("promise 2: on after one that was off", x.turn(equation, true), 1);
        }
        Check.same("promise 2: and it counts", x.possible(0), 1 << 2);
    }

    // Promise 3: "place 0 to 3 for the unknowns' factors, 4 for e"
    private static void setPlaces() {
        for (int unknown = 0; unknown < 4; unknown++) {
            ModSolver x = new ModSolver();
            x.add(0);
            Check.same("promise 3: e was 0", x.set(0, 4, 6), 0);
            Check.same("promise 3: 0 = 6", x.solutions(), 0);
            Check.same("promise 3: the factor was 0", x.set(0, unknown, 3), 0);
            Check.same("promise 3: 3 * x" + unknown + " = 6", x.possible(unknown), 1 << 2);
            Check.same("promise 3: of 343", x.solutions(), 343);
            Check.same("promise 3: the factor was 3", x.set(0, unknown, 0), 3);
            Check.same("promise 3: e was 6", x.set(0, 4, 0), 6);
            Check.same("promise 3: 0 = 0", x.solutions(), 2401);
        }
    }

    // Promise 3: "Sets one number of an equation": none beside it, nor whether the equation is on.
    private static void setOneNumberAlone() {
        for (int sample = 0; sample < Samples.COUNT; sample++) {
            ModSolver x = Samples.make(sample);
            for (int equation = 0; equation < Samples.size(sample); equation++) {
                for (int place = 0; place < 5; place++) {
                    int old = x.set(equation, place, 5);
                    Check.same("promise 3: set and set back", x.set(equation, place, old), 5);
                }
            }
            isAsMade("promise 3: all set back", x, sample);
        }
    }

    // Promise 3: "value modulo 7 counted as 0 to 6, also for negative ones"
    private static void setModuloSeven() {
        int[] values = {0, 1, 5, 6, 7, 8, 13, 14, 15, 700, 706, MAX, MAX - 1, MAX - 2,
            -1, -2, -6, -7, -8, -13, -14, -15, -700, -701, MIN, MIN + 1, MIN + 2, MIN + 3};
        int[] counted = {0, 1, 5, 6, 0, 1, 6, 0, 1, 0, 6, 1, 0, 6,
            6, 5, 1, 0, 6, 1, 0, 6, 0, 6, 5, 6, 0, 1};
        for (int place = 0; place < 5; place++) {
            ModSolver x = new ModSolver();
            x.add(Digits.of(3, 3, 3, 3, 3));
            int old = 3;
            for (int i = 0; i < values.length; i++) {
                Check.same("promise 3: before value " + values[i], x.set(0, place, values[i]), old);
                old = counted[i];
            }
            Check.same("promise 3: the last value", x.set(0, place, 3), old);
        }
        // A number that is held right but counted wrong would show here: 6 * x0 = 5 and -1 * x0 = -2 are one equation.
        ModSolver x = new ModSolver();
        x.add(0);
        x.set(0, 0, -1);
        x.set(0, 4, -2);
        Check.same("promise 3: -1 * x0 = -2", x.possible(0), 1 << 2);
        Check.same("promise 3: of 343", x.solutions(), 343);
    }

    // Promise 3: "No such equation: BAD_EQUATION; ... nothing changes then."
    private static void setNoSuchEquation() {
        for (int sample = 0; sample < Samples.COUNT; sample++) {
            ModSolver x = Samples.make(sample);
            for (int equation : wrongEquations(sample)) {
                for (int place = 0; place < 5; place++) {
                    int got = x.set(equation, place, 1 + place);
                    Check.same("promise 3: set equation " + equation, got, ModSolver.BAD_EQUATION);
                }
            }
            isAsMade("promise 3: no such equation", x, sample);
        }
    }

    // Promise 3: "place not in 0 to 4: BAD_UNKNOWN; nothing changes then."
    private static void setNoSuchPlace() {
        for (int sample = 0; sample < Samples.COUNT; sample++) {
            ModSolver x = Samples.make(sample);
            for (int equation = 0; equation < Samples.size(sample); equation++) {
                for (int place : WRONG_PLACES) {
                    int got = x.set(equation, place, 1 + equation);
                    Check.same("promise 3: set place " + place, got, ModSolver.BAD_UNKNOWN);
                }
            }
            isAsMade("promise 3: no such place", x, sample);
        }
    }

    // Promise 13: "set: BAD_EQUATION is tested before BAD_UNKNOWN."
    private static void setBothWrong() {
        for (int sample = 0; sample < Samples.COUNT; sample++) {
            ModSolver x = Samples.make(sample);
            for (int equation : wrongEquations(sample)) {
                for (int place : WRONG_PLACES) {
                    int got = x.set(equation, place, 1);
                    Check.same("promise 13: set " + equation + ", " + place, got, ModSolver.BAD_EQUATION);
                }
            }
            isAsMade("promise 13: both wrong", x, sample);
        }
    }

    // Promise 4: "BAD_EQUATION, nothing changes."
    private static void turnNoSuchEquation() {
        for (int sample = 0; sample < Samples.COUNT; sample++) {
            ModSolver x = Samples.make(sample);
            for (int equation : wrongEquations(sample)) {
                Check.same("promise 4: off " + equation, x.turn(equation, false), ModSolver.BAD_EQUATION);
                Check.same("promise 4: on " + equation, x.turn(equation, true), ModSolver.BAD_EQUATION);
                Check.same("promise 4: off " + equation, x.turn(equation, false), ModSolver.BAD_EQUATION);
            }
            isAsMade("promise 4: no such equation", x, sample);
        }
    }

    // Promise 4: "Else answers 1 if it was on, 0 if not." Also where it was so before, and for the first and the last.
    private static void turnToWhatItIs() {
        ModSolver x = filled(0);
        for (int equation = 0; equation < 6; equation++) {
            Check.same("promise 4: on to on", x.turn(equation, true), 1);
            Check.same("promise 4: on to off", x.turn(equation, false), 1);
            Check.same("promise 4: off to off", x.turn(equation, false), 0);
            Check.same("promise 4: off to on", x.turn(equation, true), 0);
            Check.same("promise 4: on again", x.turn(equation, true), 1);
        }
        Check.same("promise 4: all as before", Answers.of(x), Answers.of(filled(0)));
    }

    // Promise 5: "There is none: BAD_EQUATION."
    private static void dropNone() {
        ModSolver x = new ModSolver();
        for (int call = 0; call < 8; call++) {
            Check.same("promise 5: drop of none", x.drop(), ModSolver.BAD_EQUATION);
        }
        isAsMade("promise 5: drop of none", x, 0);
        ModSolver y = new ModSolver();
        y.drop();
        Check.same("promise 5: add after it", y.add(Digits.of(1, 0, 0, 0, 2)), 0);
        Check.same("promise 5: and it counts", y.solutions(), 343);
        Check.same("promise 5: and is dropped", y.drop(), 0);
    }

    // Promise 5: "Else answers how many are left."
    private static void dropToNone() {
        ModSolver x = filled(0);
        for (int left = 5; left >= 0; left--) {
            Check.same("promise 5: left", x.drop(), left);
            Check.same("promise 5: no such equation", x.turn(left, true), ModSolver.BAD_EQUATION);
            Check.same("promise 5: the one before it", x.turn(left - 1, true), left == 0 ? ModSolver.BAD_EQUATION : 1);
        }
        Check.same("promise 5: no more", x.drop(), ModSolver.BAD_EQUATION);
        isAsMade("promise 5: all dropped", x, 0);
    }

    private static int[] wrongEquations(int sample) {
        return new int[] {-1, -6, Samples.size(sample), Samples.size(sample) + 1, 6, 7, MIN, MIN + 1, MAX};
    }

    private static void isAsMade(String what, ModSolver x, int sample) {
        Check.same(what + ", sample " + sample, Answers.of(x), Answers.of(Samples.make(sample)));
    }

    private static ModSolver filled(int sample) {
        ModSolver x = Samples.make(sample);
        for (int number = Samples.size(sample); number < 6; number++) {
            Check.same("promise 2: filling", x.add(Digits.of(number, 1, 0, number, 2)), number);
        }
        return x;
    }

    private static void addGives(String what, int digits, int... want) {
        ModSolver x = new ModSolver();
        Check.same(what + ": add", x.add(digits), 0);
        for (int place = 0; place < 5; place++) {
            Check.same(what + ": number " + place, x.set(0, place, 0), want[place]);
        }
    }
}
