/** Puts numbers 0 to 6 together as digits in base 7, the first one lowest. */
final class Digits {
    private Digits() {
    }

    static int of(int... numbers) {
        int digits = 0;
        for (int i = numbers.length - 1; i >= 0; i--) {
            digits = digits * 7 + numbers[i];
        }
        return digits;
    }
}
