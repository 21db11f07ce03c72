/** The example of README.md, call by call: change the two together. */
final class ReadmeTest {
    public static void main(String[] args) {
        ModSolver s = new ModSolver();
        Check.same("add x0 + x1 = 3", s.add(1 + 7 + 3 * 2401), 0);
        Check.same("add x0 - x1 = 1", s.add(1 + 6 * 7 + 1 * 2401), 1);
        Check.same("solutions()", s.solutions(), 49);
        Check.same("value(0, 0)", s.value(0, 0), 2);
        Check.same("possible(1)", s.possible(1), 2);
        Check.same("fixed(2)", s.fixed(2), false);
        Check.same("rank of (2, 1, 1, 0)", s.rank(2 + 1 * 7 + 1 * 49), 7);
        Check.same("needed()", s.needed(), 2);
        Check.same("turn(1, false)", s.turn(1, false), 1);
        Check.same("follows(1)", s.follows(1), false);
        Check.same("set(0, 4, -1)", s.set(0, 4, -1), 3);
        Check.same("drop()", s.drop(), 1);
        Check.end();
    }
}
