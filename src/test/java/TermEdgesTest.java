import java.util.ArrayList;
import java.util.List;
import java.util.function.Consumer;
import java.util.function.ToIntFunction;

/** The sentences of "What it is" and "Terms" that name a boundary: one test for each. */
final class TermEdgesTest {
    private static final int[] EDGES = {Integer.MIN_VALUE, -2401, -7, -1, 0, 1, 2, 3, 4, 5, 6, 7, 342, 343, 2400, 2401,
        16807, Integer.MAX_VALUE};
    private static final int CALLS = 512;

    public static void main(String[] args) {
        everyCallAsTheLast();
        oneKindOfCallAlone();
        unknownsAndValues();
        atMostSixEquations();
        sumModuloSeven();
        everyEquationThatIsOn();
        order();
        askingChangesNothing();
        askingBeforeAChange();
        Check.end();
    }

    // "An object is used for at most 512 calls after it has been made"
    private static void everyCallAsTheLast() {
        List<ToIntFunction<ModSolver>> lasts = List.of(
            x -> x.add(0), x -> x.set(1, 4, 0), x -> x.turn(0, false), x -> x.drop(), x -> x.solutions(),
            x -> x.value(48, 3), x -> x.possible(1), x -> x.fixed(0) ? 1 : 0, x -> x.rank(Digits.of(6, 6, 6, 6)),
            x -> x.follows(1) ? 1 : 0, x -> x.needed());
        int[] due = {2, 2, 1, 1, 49, 6, 1 << 2, 1, 49, 1, 2};
        for (int last = 0; last < due.length; last++) {
            ModSolver x = new ModSolver();
            Check.same("512 calls: call 1", x.add(Digits.of(1, 0, 0, 0, 1)), 0);
            Check.same("512 calls: call 2", x.add(Digits.of(0, 1, 0, 0, 2)), 1);
            for (int call = 3; call < CALLS; call++) {
                callThatChangesNothing(x, call);
            }
            Check.same("512 calls: the last of kind " + last, lasts.get(last).applyAsInt(x), due[last]);
        }
    }

    private static void callThatChangesNothing(ModSolver x, int call) {
        String what = "512 calls: call " + call;
        switch (call % 10) {
            case 0: Check.same(what, x.set(1, 4, 2), 2); break;
            case 1: Check.same(what, x.set(2, 0, 1), ModSolver.BAD_EQUATION); break;
            case 2: Check.same(what, x.turn(0, true), 1); break;
            case 3: Check.same(what, x.solutions(), 49); break;
            case 4: Check.same(what, x.value(49, 0), ModSolver.NONE); break;
            case 5: Check.same(what, x.possible(2), 127); break;
            case 6: Check.same(what, x.fixed(3), false); break;
            case 7: Check.same(what, x.rank(0), 0); break;
            case 8: Check.same(what, x.follows(0), true); break;
            default: Check.same(what, x.needed(), 2); break;
        }
    }

    // The same sentence: no kind of call wears out, though it were made alone.
    private static void oneKindOfCallAlone() {
        ModSolver added = new ModSolver();
        ModSolver dropped = new ModSolver();
        ModSolver both = new ModSolver();
        ModSolver set = new ModSolver();
        ModSolver turned = new ModSolver();
        set.add(0);
        turned.add(0);
        for (int call = 0; call < CALLS; call++) {
            Check.same("512 calls of add", added.add(call), call < 6 ? call : ModSolver.FULL);
            Check.same("512 calls of drop", dropped.drop(), ModSolver.BAD_EQUATION);
            Check.same("512 calls of add and drop", call % 2 == 0 ? both.add(call) : both.drop(), 0);
        }
        for (int call = 1; call < CALLS; call++) {
            Check.same("511 calls of set", set.set(0, 2, call), (call - 1) % 7);
            Check.same("511 calls of turn", turned.turn(0, call % 2 == 0), call % 2);
        }
    }

    // "four UNKNOWNS (0 to 3), each a number 0 to 6"
    private static void unknownsAndValues() {
        ModSolver x = new ModSolver();
        Check.same("terms: 7 to the 4th", x.solutions(), 7 * 7 * 7 * 7);
        for (int unknown = -1; unknown <= 4; unknown++) {
            boolean there = unknown >= 0 && unknown <= 3;
            Check.same("terms: values of unknown " + unknown, x.possible(unknown), there ? 127 : 0);
            Check.same("terms: least of " + unknown, x.value(0, unknown), there ? 0 : ModSolver.NONE);
            Check.same("terms: greatest of " + unknown, x.value(2400, unknown), there ? 6 : ModSolver.NONE);
        }
    }

    // "at most six EQUATIONS"
    private static void atMostSixEquations() {
        ModSolver x = new ModSolver();
        for (int unknown = 0; unknown < 4; unknown++) {
            int[] numbers = new int[5];
            numbers[unknown] = 1;
            x.add(Digits.of(numbers));
        }
        Check.same("terms: the fifth", x.add(Digits.of(1, 1, 0, 0, 0)), 4);
        Check.same("terms: five", x.solutions(), 1);
        Check.same("terms: the sixth", x.add(Digits.of(0, 0, 1, 1, 1)), 5);
        Check.same("terms: the sixth counts", x.solutions(), 0);
        Check.same("terms: no seventh", x.add(0), ModSolver.FULL);
    }

    // "all numbers 0 to 6, the sum taken modulo 7": four products of 6 and 6 are 144, which is 4 modulo 7.
    private static void sumModuloSeven() {
        for (int e = 0; e <= 6; e++) {
            ModSolver x = new ModSolver();
            x.add(Digits.of(1, 0, 0, 0, 6));
            x.add(Digits.of(0, 1, 0, 0, 6));
            x.add(Digits.of(0, 0, 1, 0, 6));
            x.add(Digits.of(0, 0, 0, 1, 6));
            x.add(Digits.of(6, 6, 6, 6, e));
            Check.same("terms: 144 = " + e, x.solutions(), e == 4 ? 1 : 0);
            x.set(4, 0, 0);
            Check.same("terms: 108 = " + e, x.solutions(), e == 3 ? 1 : 0);
            x.set(4, 1, 2);
            x.set(4, 2, 3);
            x.set(4, 3, 2);
            Check.same("terms: 42 = " + e, x.solutions(), e == 0 ? 1 : 0);
        }
    }

    // "Each equation is ON or off. A SOLUTION gives values ... such that every equation that is on holds."
    private static void everyEquationThatIsOn() {
        for (int equation = 0; equation < 6; equation++) {
            ModSolver x = new ModSolver();
            for (int i = 0; i < 6; i++) {
                x.add(Digits.of(0, 0, 0, 0, i == equation ? 1 : 0));
            }
            Check.same("terms: on, equation " + equation, x.solutions(), 0);
            x.turn(equation, false);
            Check.same("terms: off, equation " + equation, x.solutions(), 2401);
            x.turn(equation, true);
            Check.same("terms: on again, equation " + equation, x.solutions(), 0);
        }
    }

    // "by the value of unknown 0, then 1, then 2, then 3, smaller values first"
    private static void order() {
        for (int w = 0; w < 7; w++) {
            for (int x = 0; x < 7; x++) {
                ModSolver all = new ModSolver();
                for (int yz = 0; yz < 49; yz++) {
                    int n = w * 343 + x * 49 + yz;
                    Check.same("terms: unknown 0 of " + n, all.value(n, 0), w);
                    Check.same("terms: unknown 1 of " + n, all.value(n, 1), x);
                    Check.same("terms: unknown 2 of " + n, all.value(n, 2), yz / 7);
                    Check.same("terms: unknown 3 of " + n, all.value(n, 3), yz % 7);
                    Check.same("terms: rank of " + n, all.rank(Digits.of(w, x, yz / 7, yz % 7)), n);
                }
            }
        }
    }

    // "The calls below change nothing that any call answers."
    private static void askingChangesNothing() {
        List<Consumer<ModSolver>> asks = asks();
        for (int sample = 0; sample < Samples.COUNT; sample++) {
            String untouched = Answers.of(Samples.make(sample));
            for (int ask = 0; ask < asks.size(); ask++) {
                ModSolver x = Samples.make(sample);
                asks.get(ask).accept(x);
                Check.same("terms: sample " + sample + " after ask " + ask, Answers.of(x), untouched);
            }
        }
    }

    // The same sentence: what was asked before a change is no matter after it.
    private static void askingBeforeAChange() {
        List<Consumer<ModSolver>> changes = List.of(
            x -> x.add(Digits.of(1, 0, 2, 0, 3)), x -> x.drop(), x -> x.turn(0, false), x -> x.turn(0, true),
            x -> x.turn(5, true), x -> x.set(0, 0, 6), x -> x.set(0, 1, 6), x -> x.set(0, 2, 6), x -> x.set(0, 3, 6),
            x -> x.set(0, 4, 6), x -> x.set(2, 4, 0));
        for (int sample = 0; sample < Samples.COUNT; sample++) {
            for (int change = 0; change < changes.size(); change++) {
                ModSolver asked = Samples.make(sample);
                ModSolver twin = Samples.make(sample);
                Answers.asked(asked);
                changes.get(change).accept(asked);
                changes.get(change).accept(twin);
                Check.same("terms: sample " + sample + ", change " + change, Answers.of(asked), Answers.of(twin));
            }
        }
    }

    // Each asking call by itself, with every edge as its argument; value with each of the unknowns and beyond.
    private static List<Consumer<ModSolver>> asks() {
        List<Consumer<ModSolver>> asks = new ArrayList<>();
        asks.add(x -> x.solutions());
        asks.add(x -> x.needed());
        for (int edge : EDGES) {
            asks.add(x -> x.possible(edge));
            asks.add(x -> x.fixed(edge));
            asks.add(x -> x.rank(edge));
            asks.add(x -> x.follows(edge));
            for (int unknown = -1; unknown <= 4; unknown++) {
                int asked = unknown;
                asks.add(x -> x.value(edge, asked));
            }
        }
        return asks;
    }
}
