import java.util.ArrayList;
import java.util.List;

/** The document's words told once more, plainly and slowly: a list of equations and a list of solutions. */
final class Model {
    private final List<int[]> equations = new ArrayList<>();
    private final List<Boolean> on = new ArrayList<>();

    int add(int digits) {
        if (equations.size() == 6) {
            return -3;
        }
        equations.add(digitsOf(digits, 5));
        on.add(true);
        return equations.size() - 1;
    }

    int set(int equation, int place, int value) {
        if (!exists(equation)) {
            return -1;
        }
        if (place < 0 || place > 4) {
            return -2;
        }
        int old = equations.get(equation)[place];
        equations.get(equation)[place] = Math.floorMod(value, 7);
        return old;
    }

    int turn(int equation, boolean to) {
        if (!exists(equation)) {
            return -1;
        }
        return on.set(equation, to) ? 1 : 0;
    }

    int drop() {
        if (equations.isEmpty()) {
            return -1;
        }
        int last = equations.size() - 1;
        equations.remove(last);
        on.remove(last);
        return last;
    }

    int solutions() {
        return solutionsOf(chosen(-1)).size();
    }

    int value(int n, int unknown) {
        List<int[]> all = solutionsOf(chosen(-1));
        boolean there = n >= 0 && n < all.size() && unknown >= 0 && unknown < 4;
        return there ? all.get(n)[unknown] : -4;
    }

    int possible(int unknown) {
        int mask = 0;
        if (unknown >= 0 && unknown < 4) {
            for (int[] solution : solutionsOf(chosen(-1))) {
                mask |= 1 << solution[unknown];
            }
        }
        return mask;
    }

    boolean fixed(int unknown) {
        if (unknown < 0 || unknown > 3) {
            return false;
        }
        return solutionsOf(chosen(-1)).stream().map(solution -> solution[unknown]).distinct().count() == 1;
    }

    int rank(int digits) {
        int[] point = digitsOf(digits, 4);
        int before = 0;
        for (int[] solution : solutionsOf(chosen(-1))) {
            before += java.util.Arrays.compare(solution, point) < 0 ? 1 : 0;
        }
        return before;
    }

    boolean follows(int equation) {
        return exists(equation)
            && solutionsOf(chosen(-1)).stream().allMatch(solution -> holds(equations.get(equation), solution));
    }

    // Fewer equations never lose a solution: the same count means the same solutions.
    int needed() {
        int all = solutions();
        int least = 6;
        for (int subset = 0; subset < 64; subset++) {
            List<int[]> kept = chosen(subset);
            if (kept.size() < least && solutionsOf(kept).size() == all) {
                least = kept.size();
            }
        }
        return least;
    }

    int size() {
        return equations.size();
    }

    int[] numbers(int equation) {
        return equations.get(equation);
    }

    private boolean exists(int equation) {
        return equation >= 0 && equation < equations.size();
    }

    private List<int[]> chosen(int subset) {
        List<int[]> kept = new ArrayList<>();
        for (int i = 0; i < equations.size(); i++) {
            if (on.get(i) && (subset >> i & 1) == 1) {
                kept.add(equations.get(i));
            }
        }
        return kept;
    }

    private static List<int[]> solutionsOf(List<int[]> kept) {
        List<int[]> found = new ArrayList<>();
        for (int w = 0; w < 7; w++) {
            for (int x = 0; x < 7; x++) {
                for (int y = 0; y < 7; y++) {
                    for (int z = 0; z < 7; z++) {
                        int[] point = {w, x, y, z};
                        if (kept.stream().allMatch(equation -> holds(equation, point))) {
                            found.add(point);
                        }
                    }
                }
            }
        }
        return found;
    }

    private static boolean holds(int[] numbers, int[] point) {
        int sum = numbers[0] * point[0] + numbers[1] * point[1] + numbers[2] * point[2] + numbers[3] * point[3];
        return sum % 7 == numbers[4];
    }

    private static int[] digitsOf(int digits, int count) {
        int[] numbers = new int[count];
        int rest = digits & 2147483647;
        for (int i = 0; i < count; i++) {
            numbers[i] = rest % 7;
            rest /= 7;
        }
        return numbers;
    }
}
