/** All that an object answers, as one text: two objects in the same state give the same one. */
final class Answers {
    private static final int[] POINTS = {0, 1, 7, 49, 343, 1000, 2400};

    private Answers() {
    }

    /** Uses the object up, by some 120 calls: the numbers of an equation are seen by setting them alone. */
    static String of(ModSolver x) {
        StringBuilder all = new StringBuilder();
        all.append(asked(x));
        for (int equation = 0; equation <= 6; equation++) {
            all.append("\nequation ").append(equation).append(": on ").append(x.turn(equation, false));
            for (int place = 0; place < 5; place++) {
                all.append(' ').append(x.set(equation, place, 0));
            }
        }
        all.append("\ndrops:");
        for (int drop = 0; drop <= 6; drop++) {
            all.append(' ').append(x.drop());
        }
        return all.toString();
    }

    /** The asking calls alone, some 60 of them. */
    static String asked(ModSolver x) {
        StringBuilder all = new StringBuilder();
        all.append("\nsolutions ").append(x.solutions()).append(", needed ").append(x.needed());
        for (int unknown = -1; unknown <= 4; unknown++) {
            all.append("\nunknown ").append(unknown).append(": ").append(x.possible(unknown));
            all.append(' ').append(x.fixed(unknown));
            for (int n = -1; n < 50; n += 10) {
                all.append(' ').append(x.value(n, unknown));
            }
        }
        all.append("\nranks:");
        for (int point : POINTS) {
            all.append(' ').append(x.rank(point));
        }
        all.append("\nfollows:");
        for (int equation = -1; equation <= 6; equation++) {
            all.append(' ').append(x.follows(equation));
        }
        return all.toString();
    }
}
