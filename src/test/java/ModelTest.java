/** Mixed runs of calls, each answer held against the model's; and that the asking calls change nothing. */
final class ModelTest {
    private static final int RUNS = 100;
    // A step makes at most eight calls, and an object is good for 512.
    private static final int STEPS = 60;
    private static final int[] EDGES = {-1, 0, 1, 2, 3, 4, 5, 6, 7, Integer.MIN_VALUE, Integer.MAX_VALUE};

    // The runs are the same each time: the numbers come from this seed alone.
    private static long seed = 20261115L;

    public static void main(String[] args) {
        for (int run = 0; run < RUNS; run++) {
            mixedRun(run);
        }
        askingChangesNothing();
        lastOfAllCalls();
        Check.end();
    }

    private static void mixedRun(int run) {
        ModSolver x = new ModSolver();
        Model m = new Model();
        for (int step = 0; step < STEPS; step++) {
            String what = "run " + run + ", step " + step + ": ";
            if (pick(3) == 0) {
                change(what, x, m);
            } else {
                ask(what, x, m);
            }
        }
    }

    private static void change(String what, ModSolver x, Model m) {
        int kind = pick(10);
        if (kind < 5) {
            int digits = someEquation(m);
            Check.same(what + "add(" + digits + ")", x.add(digits), m.add(digits));
        } else if (kind < 7) {
            int equation = edge();
            int place = edge();
            int value = pick(2) == 0 ? edge() : pick(40) - 20;
            String call = "set(" + equation + ", " + place + ", " + value + ")";
            Check.same(what + call, x.set(equation, place, value), m.set(equation, place, value));
        } else if (kind < 9) {
            int equation = edge();
            boolean on = pick(2) == 0;
            Check.same(what + "turn(" + equation + ", " + on + ")", x.turn(equation, on), m.turn(equation, on));
        } else {
            Check.same(what + "drop()", x.drop(), m.drop());
        }
    }

    private static void ask(String what, ModSolver x, Model m) {
        int a = edge();
        int digits = (int) next();
        int solutions = m.solutions();
        int n = pick(solutions + 3) - 1;
        Check.same(what + "solutions()", x.solutions(), solutions);
        Check.same(what + "value(" + n + ", " + a + ")", x.value(n, a), m.value(n, a));
        Check.same(what + "value(" + n + ", 2)", x.value(n, 2), m.value(n, 2));
        Check.same(what + "possible(" + a + ")", x.possible(a), m.possible(a));
        Check.same(what + "fixed(" + a + ")", x.fixed(a), m.fixed(a));
        Check.same(what + "rank(" + digits + ")", x.rank(digits), m.rank(digits));
        Check.same(what + "follows(" + a + ")", x.follows(a), m.follows(a));
        Check.same(what + "needed()", x.needed(), m.needed());
    }

    // Equations drawn freely are seldom dependent: half are made of two that are there, with e now and then another.
    private static int someEquation(Model m) {
        if (m.size() < 2 || pick(2) == 0) {
            return pick(4) == 0 ? (int) next() : Digits.of(pick(7), pick(3), pick(2), pick(2), pick(7));
        }
        int[] first = m.numbers(pick(m.size()));
        int[] second = m.numbers(pick(m.size()));
        int times = pick(7);
        int[] made = new int[5];
        for (int place = 0; place < 5; place++) {
            made[place] = (first[place] + times * second[place]) % 7;
        }
        made[4] = (made[4] + (pick(3) == 0 ? pick(7) : 0)) % 7;
        return Digits.of(made);
    }

    private static void askingChangesNothing() {
        ModSolver asked = new ModSolver();
        Model m = new Model();
        for (int call = 0; call < 30; call++) {
            change("asked, call " + call + ": ", asked, m);
            for (int a : EDGES) {
                asked.value(a, a);
                asked.possible(a);
                asked.fixed(a);
                asked.rank(a);
                asked.follows(a);
            }
            asked.solutions();
            asked.needed();
            if (call % 7 == 6) {
                // An object is good for 512 calls: a new one goes on, and the model with it.
                everyNumberIsTheModels(asked, m);
                asked = new ModSolver();
                m = new Model();
            }
        }
    }

    private static void everyNumberIsTheModels(ModSolver x, Model m) {
        for (int equation = 0; equation < 7; equation++) {
            Check.same("asked: turn " + equation, x.turn(equation, true), m.turn(equation, true));
            for (int place = 0; place < 5; place++) {
                Check.same("asked: set " + equation, x.set(equation, place, 1), m.set(equation, place, 1));
            }
        }
    }

    private static void lastOfAllCalls() {
        ModSolver x = new ModSolver();
        Model m = new Model();
        for (int call = 1; call <= 512; call++) {
            change("long run, call " + call + ": ", x, m);
        }
    }

    private static int edge() {
        return pick(8) == 0 ? EDGES[pick(EDGES.length)] : pick(6);
    }

    private static int pick(int bound) {
        return (int) Math.floorMod(next(), (long) bound);
    }

    private static long next() {
        seed = seed * 6364136223846793005L + 1442695040888963407L;
        return seed >> 32;
    }
}
