public final class ModSolver {
    public static final int BAD_EQUATION = -1;
    public static final int BAD_UNKNOWN = -2;
    public static final int FULL = -3;
    public static final int NONE = -4;

    private static final int MODULUS = 7;
    private static final int UNKNOWNS = 4;
    private static final int PLACES = 5;
    private static final int CAPACITY = 6;
    private static final int CELLS = 30;
    private static final int POINTS = 2401;
    private static final int SUBSETS = 64;
    // Masks are of the seven values or of the six equations.
    private static final int MASK_BITS = 7;
    private static final int WITHOUT_SIGN = 2147483647;

    // Equation i has its five numbers side by side from cell i * PLACES on.
    private final int[] numbers = new int[CELLS];
    private final boolean[] switchedOn = new boolean[CAPACITY];
    private int count;

    public ModSolver() {
        count = 0;
    }

    public int add(int digits) {
        if (count == CAPACITY) {
            return FULL;
        }
        int equation = count;
        int rest = digits & WITHOUT_SIGN;
        for (int place = 0; place < PLACES; place++) {
            numbers[equation * PLACES + place] = rest % MODULUS;
            rest = rest / MODULUS;
        }
        switchedOn[equation] = true;
        count = count + 1;
        return equation;
    }

    public int set(int equation, int place, int value) {
        if (!isEquation(equation)) {
            return BAD_EQUATION;
        }
        if (place < 0 || place >= PLACES) {
            return BAD_UNKNOWN;
        }
        int cell = equation * PLACES + place;
        int old = numbers[cell];
        // Java's remainder of a negative number is negative or 0.
        numbers[cell] = (value % MODULUS + MODULUS) % MODULUS;
        return old;
    }

    public int turn(int equation, boolean on) {
        if (!isEquation(equation)) {
            return BAD_EQUATION;
        }
        int old = switchedOn[equation] ? 1 : 0;
        switchedOn[equation] = on;
        return old;
    }

    public int drop() {
        if (count == 0) {
            return BAD_EQUATION;
        }
        count = count - 1;
        return count;
    }

    public int solutions() {
        return solutionsBefore(POINTS);
    }

    public int value(int n, int unknown) {
        if (n < 0 || !isUnknown(unknown)) {
            return NONE;
        }
        int before = 0;
        for (int point = 0; point < POINTS; point++) {
            if (isSolution(point)) {
                if (before == n) {
                    return coordinate(point, unknown);
                }
                before++;
            }
        }
        return NONE;
    }

    public int possible(int unknown) {
        if (!isUnknown(unknown)) {
            return 0;
        }
        return valuesInSolutions(unknown);
    }

    public boolean fixed(int unknown) {
        if (!isUnknown(unknown)) {
            return false;
        }
        int mask = valuesInSolutions(unknown);
        return bitCount(mask) == 1;
    }

    public int rank(int digits) {
        int rest = digits & WITHOUT_SIGN;
        int point = 0;
        // The lowest digit belongs to unknown 0, which weighs most in the order.
        for (int unknown = 0; unknown < UNKNOWNS; unknown++) {
            point = point * MODULUS + rest % MODULUS;
            rest = rest / MODULUS;
        }
        return solutionsBefore(point);
    }

    public boolean follows(int equation) {
        if (!isEquation(equation)) {
            return false;
        }
        for (int point = 0; point < POINTS; point++) {
            if (isSolution(point) && !holds(equation, point)) {
                return false;
            }
        }
        return true;
    }

    public int needed() {
        long patterns = brokenPatterns();
        int least = CAPACITY;
        for (int kept = 0; kept < SUBSETS; kept++) {
            int size = bitCount(kept);
            if (size < least && keepsOut(kept, patterns)) {
                least = size;
            }
        }
        return least;
    }

    private boolean isEquation(int equation) {
        return equation >= 0 && equation < count;
    }

    private boolean isUnknown(int unknown) {
        return unknown >= 0 && unknown < UNKNOWNS;
    }

    // A point is a choice of all four values, read as one number in base 7 with unknown 0 as its highest digit:
    // so smaller points come first in the order of solutions.
    private int coordinate(int point, int unknown) {
        int rest = point;
        for (int later = UNKNOWNS - 1; later > unknown; later--) {
            rest = rest / MODULUS;
        }
        return rest % MODULUS;
    }

    private boolean holds(int equation, int point) {
        int start = equation * PLACES;
        int sum = 0;
        int rest = point;
        for (int unknown = UNKNOWNS - 1; unknown >= 0; unknown--) {
            sum = sum + numbers[start + unknown] * (rest % MODULUS);
            rest = rest / MODULUS;
        }
        return sum % MODULUS == numbers[start + UNKNOWNS];
    }

    // The equations that are on and don't hold at the point, as a mask.
    private int brokenAt(int point) {
        int broken = 0;
        for (int equation = 0; equation < count; equation++) {
            if (switchedOn[equation] && !holds(equation, point)) {
                broken = broken | (1 << equation);
            }
        }
        return broken;
    }

    private boolean isSolution(int point) {
        return brokenAt(point) == 0;
    }

    private int solutionsBefore(int end) {
        int found = 0;
        for (int point = 0; point < POINTS && point < end; point++) {
            if (isSolution(point)) {
                found++;
            }
        }
        return found;
    }

    private int valuesInSolutions(int unknown) {
        int mask = 0;
        for (int point = 0; point < POINTS; point++) {
            if (isSolution(point)) {
                int bit = coordinate(point, unknown);
                mask = mask | (1 << bit);
            }
        }
        return mask;
    }

    // Bit m is set if some point breaks just the equations of mask m: six equations have 64 masks, as many as a long
    // has bits.
    private long brokenPatterns() {
        long patterns = 0L;
        for (int point = 0; point < POINTS; point++) {
            int broken = brokenAt(point);
            patterns = patterns | (1L << broken);
        }
        return patterns;
    }

    // No solution is gained if each point that isn't one still breaks an equation that is kept. An equation that is off
    // is in no pattern, so a least choice never holds one.
    private boolean keepsOut(int kept, long patterns) {
        for (int broken = 1; broken < SUBSETS; broken++) {
            boolean seen = ((patterns >>> broken) & 1L) == 1L;
            if (seen && (broken & kept) == 0) {
                return false;
            }
        }
        return true;
    }

    private int bitCount(int mask) {
        int bits = 0;
        for (int bit = 0; bit < MASK_BITS; bit++) {
            bits = bits + ((mask >>> bit) & 1);
        }
        return bits;
    }
}
