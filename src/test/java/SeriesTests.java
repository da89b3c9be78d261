/**
 * What is answered hangs on the points that are there, not on how they came: an object whose points
 * were changed, dropped and appended answers as a new one to which the same points were appended.
 */
public final class SeriesTests extends Checks {
    private static final int SERIES = 400;
    private static final int STEPS = 60;
    private static final int ASKED_AT_END = 300;
    private static long seed = 20261115L;

    public static void main(String[] args) {
        for (int i = 0; i < SERIES && wrong < 20; i++) {
            about = "series " + i;
            run(2 + pick(i % 2 == 0 ? 4 : 23));
        }
        end("the answers hang on the points alone");
    }

    /** The same numbers in each run. */
    private static int pick(int bound) {
        seed = seed * 6364136223846793005L + 1442695040888963407L;
        return (int) ((seed >>> 33) % bound);
    }

    /** Jumps and uses come often, so that rings with and without a use come and go. */
    private static int madeUp(int most) {
        int[] kinds = {SET, READ, CONSUME, SHARE, LEND, LEND, MOVE, COPY, USE, USE, USE, RELEASE, GOTO, BRANCH, BRANCH, BRANCH};
        int kind = kinds[pick(kinds.length)];
        if (kind >= GOTO) return at(kind, pick(most + 1));
        return kind <= CONSUME ? at(kind, pick(2)) : at(kind, pick(3), kind <= LEND ? pick(2) : pick(3));
    }

    private static void run(int most) {
        LoanChecker x = new LoanChecker();
        int[] points = new int[24];
        int count = 0;
        for (int step = 0; step < STEPS; step++) {
            int todo = pick(6);
            int point = madeUp(most);
            if (count == 0 || todo < 2 && count < Math.min(most, 24)) {
                due("point", append(x, point), count);
                points[count++] = point;
            } else if (todo == 2) {
                due("drop", x.drop(), --count);
            } else {
                int p = pick(count);
                due("change", put(x, p, point), kindOf(points[p]));
                points[p] = point;
            }
            LoanChecker anew = flow(java.util.Arrays.copyOf(points, count));
            for (int i = 0; i < 2; i++) compare(x, anew, count, pick(questions(count)));
        }
        LoanChecker anew = flow(java.util.Arrays.copyOf(points, count));
        for (int i = 0; i < Math.min(ASKED_AT_END, questions(count)); i++) compare(x, anew, count, i);
    }

    private static void compare(LoanChecker x, LoanChecker anew, int count, int question) {
        due("question " + question + " of " + count + " points", ask(x, count, question), ask(anew, count, question));
    }
}
