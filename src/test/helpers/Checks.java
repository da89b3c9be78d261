/** What the tests written by hand share: the kinds, flows that stand on one line, and the answers that are due. */
abstract class Checks {
    static final int SET = 0, READ = 1, CONSUME = 2, SHARE = 3, LEND = 4, MOVE = 5, COPY = 6;
    static final int USE = 7, RELEASE = 8, GOTO = 9, BRANCH = 10, STOP = 11;
    static final int BAD = -1, FULL = -2, NONE = -3;
    static final int LEAST = Integer.MIN_VALUE, GREATEST = Integer.MAX_VALUE;

    /** What the checks that come now are about. */
    static String about = "";
    static int wrong = 0;

    static void due(String what, int got, int want) {
        if (got != want) {
            wrong++;
            System.out.println(about + ": " + what + " answered " + got + ", due is " + want);
        }
    }

    static void due(String what, boolean got, boolean want) {
        due(what, got ? 1 : 0, want ? 1 : 0);
    }

    static void end(String allIsWell) {
        System.out.println(wrong == 0 ? allIsWell : wrong + " answers are not as due");
        if (wrong != 0) System.exit(1);
    }

    static int set(int... points) {
        int sum = 0;
        for (int p : points) sum += 1 << p;
        return sum;
    }

    /** A point as one number, for flows that are written on one line. */
    static int at(int kind, int x, int y) {
        return kind * 10000 + x * 100 + y;
    }

    static int at(int kind, int x) {
        return at(kind, x, 0);
    }

    static int kindOf(int point) {
        return point / 10000;
    }

    static int xOf(int point) {
        return point / 100 % 100;
    }

    static int yOf(int point) {
        return point % 100;
    }

    static int append(LoanChecker x, int point) {
        return x.point(kindOf(point), xOf(point), yOf(point));
    }

    static int put(LoanChecker x, int p, int point) {
        return x.change(p, kindOf(point), xOf(point), yOf(point));
    }

    static LoanChecker flow(int... points) {
        LoanChecker flow = new LoanChecker();
        for (int i = 0; i < points.length; i++) due("point", append(flow, points[i]), i);
        return flow;
    }

    /** The flow of these points, then of as many of the other as make it 24. */
    static int[] filled(int other, int... points) {
        int[] all = java.util.Arrays.copyOf(points, 24);
        java.util.Arrays.fill(all, points.length, 24, other);
        return all;
    }

    /** How many questions there are that a flow of so many points can be asked. */
    static int questions(int points) {
        return 4 + points * (5 + 3 * 4 + points);
    }

    static int ask(LoanChecker x, int points, int question) {
        switch (question) {
            case 0: return x.points();
            case 1: return x.faults();
            case 2: return x.firstFault();
            case 3: return x.broken();
            default: break;
        }
        int p = (question - 4) % points;
        int which = (question - 4) / points;
        switch (which) {
            case 0: return x.reached(p) ? 1 : 0;
            case 1: return x.conflicts(p);
            case 2: return x.unset(p) ? 1 : 0;
            case 3: return x.idle(p) ? 1 : 0;
            case 4: return x.span(p);
            default: break;
        }
        int r = (which - 5) % 4;
        if (which < 9) return x.holds(p, r);
        if (which < 13) return x.free(p, r) ? 1 : 0;
        if (which < 17) return x.wanted(p, r) ? 1 : 0;
        return x.shown(which - 17, p);
    }
}
