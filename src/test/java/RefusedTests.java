import java.util.function.ToIntFunction;

/**
 * What the document says of all calls: BAD_ARG comes before anything else, no call throws, a
 * refused call changes nothing, and an object is good for 512 calls.
 */
public final class RefusedTests extends Checks {
    private static final int CALLS = 512;

    /** So few that one object can be asked them three times, with all else within its 512 calls. */
    private static final int ASKED_AT_ONCE = 150;

    /** The ends of int, the ends of each range and those beyond, and numbers that a shift or a product could wrap. */
    private static final int[] EDGES = {LEAST, LEAST + 1, -25, -4, -3, -2, -1, 0, 1, 3, 4, 11, 12, 23, 24, 25, 32, 1 << 24, 1 << 30, GREATEST - 1, GREATEST};

    private static final int[] KINDS = {LEAST, -2, -1, 0, 1, 2, 3, 4, 5, 6, 7, 8, 9, 10, 11, 12, 13, 32, GREATEST};

    private static final int[] NO_POINTS = {};
    private static final int[] SOME_POINTS = {
        at(SET, 0), at(LEND, 0, 0), at(COPY, 1, 0), at(BRANCH, 6), at(READ, 0), at(SET, 0), at(USE, 1), at(USE, 2), at(GOTO, 2)};
    /** With loops, loans of both kinds, and points that are in conflict, unset, idle and not reached. */
    private static final int[] ALL_POINTS = {
        at(SET, 0), at(LEND, 0, 0), at(COPY, 1, 0), at(BRANCH, 8), at(READ, 0), at(SHARE, 2, 1), at(MOVE, 3, 2), at(SET, 1),
        at(USE, 1), at(USE, 3), at(CONSUME, 0), at(LEND, 2, 0), at(RELEASE, 0), at(BRANCH, 18), at(SET, 2), at(SHARE, 1, 2),
        at(COPY, 0, 1), at(GOTO, 3), at(USE, 0), at(CONSUME, 2), at(USE, 2), at(BRANCH, 2), at(STOP, 0), at(USE, 3)};

    public static void main(String[] args) {
        theFlowsShowMuch();
        pointsThatThereAreNot();
        badArgBeforeNone();
        badArgBeforeFull();
        everyPoint();
        everyChange();
        everyQuestion();
        refusedPoint();
        refusedFull();
        refusedChange();
        refusedDrop();
        refusedQuestions();
        questionsChangeNothing();
        the512thCall();
        allOf512Calls();
        laterCallsDoNotThrow();
        end("refused calls and limits are as due");
    }

    // ---- the same questions before and after a call ----

    private static int[] askSome(LoanChecker x, int points, int from) {
        int number = Math.min(ASKED_AT_ONCE, questions(points) - from);
        int[] answers = new int[number];
        for (int i = 0; i < number; i++) answers[i] = ask(x, points, from + i);
        return answers;
    }

    private static void dueAsBefore(String what, int from, int[] answers, int[] before) {
        for (int i = 0; i < before.length; i++) due(what + ", question " + (from + i), answers[i], before[i]);
    }

    /** Asks all before and after the refused call, and again when a call that is not refused has come behind it. */
    private static void changesNothing(String call, int[] points, int code, ToIntFunction<LoanChecker> refused) {
        for (int from = 0; from < questions(points.length); from += ASKED_AT_ONCE) {
            LoanChecker x = flow(points);
            int[] before = askSome(x, points.length, from);
            due(call, refused.applyAsInt(x), code);
            dueAsBefore("after " + call, from, askSome(x, points.length, from), before);
            if (points.length == 0) continue;
            due("change of 0 to itself", put(x, 0, points[0]), kindOf(points[0]));
            dueAsBefore("later after " + call, from, askSome(x, points.length, from), before);
        }
    }

    /** The tests of refused calls would show little if the flow's answers were all the same. */
    private static void theFlowsShowMuch() {
        about = "the flow of these tests";
        LoanChecker x = flow(ALL_POINTS);
        due("points", x.points(), 24);
        due("it has faults of each kind", x.faults() > 8, true);
        due("loans of both kinds are broken", x.broken(), 2);
        due("a conflict is shown", x.shown(1, 4), 9);
        due("a point is not reached", x.reached(23), false);
    }

    // ---- 'answers BAD_ARG (or false) before anything else' ----

    private static void pointsThatThereAreNot() {
        about = "In all calls with a point p or b, one that there is not";
        for (int[] points : new int[][] {NO_POINTS, SOME_POINTS, ALL_POINTS}) {
            int count = points.length;
            for (int p : new int[] {LEAST, -1, count, count + 1, 25, 1 << 30, GREATEST}) {
                LoanChecker x = flow(points);
                String which = " of " + p + " with " + count;
                due("change" + which, x.change(p, SET, 0, 0), BAD);
                due("reached" + which, x.reached(p), false);
                due("holds" + which, x.holds(p, 0), BAD);
                due("free" + which, x.free(p, 0), false);
                due("wanted" + which, x.wanted(p, 0), false);
                due("conflicts" + which, x.conflicts(p), BAD);
                due("unset" + which, x.unset(p), false);
                due("idle" + which, x.idle(p), false);
                due("span" + which, x.span(p), BAD);
                due("shown from" + which, x.shown(p, 0), BAD);
                due("shown at" + which, x.shown(0, p), BAD);
            }
        }
    }

    private static void badArgBeforeNone() {
        about = "BAD_ARG before anything else, before NONE, 0 or an empty set";
        LoanChecker x = flow(at(STOP, 0), at(SHARE, 0, 0), at(SET, 0));
        due("b makes no loan", x.shown(0, 1), NONE);
        due("b makes no loan, p is not there", x.shown(0, 3), BAD);
        due("b is not there, p touches no owner", x.shown(3, 0), BAD);
        due("span of one that is not there", x.span(3), BAD);
        due("a point that is not reached", x.holds(2, 0), 0);
        due("a point that is not reached, r wrong", x.holds(2, 4), BAD);
        due("p and r wrong", x.holds(3, 4), BAD);
        due("p right, r wrong", x.holds(0, -1), BAD);
        due("p wrong, r right", x.holds(-1, 0), BAD);
    }

    private static void badArgBeforeFull() {
        about = "BAD_ARG before anything else, before FULL";
        LoanChecker x = flow(ALL_POINTS);
        due("point, good", x.point(SET, 3, 0), FULL);
        due("point, wrong", x.point(SET, 4, 0), BAD);
        due("change of 24", x.change(24, SET, 3, 0), BAD);
        due("change of 24 to a wrong one", x.change(24, SET, 4, 0), BAD);
        due("change of 23 to a wrong one", x.change(23, SET, 4, 0), BAD);
        due("change of 23", x.change(23, SET, 3, 0), USE);
    }

    // ---- 'No call ever throws' ----

    /** The greatest x and y of each kind; -1 where it is not needed. */
    private static boolean isGood(int kind, int x, int y) {
        int[] greatestX = {3, 3, 3, 3, 3, 3, 3, 3, 3, 24, 24, -1};
        int[] greatestY = {-1, -1, -1, 3, 3, 3, 3, -1, -1, -1, -1, -1};
        if (kind < 0 || kind > 11) return false;
        boolean goodX = greatestX[kind] < 0 || x >= 0 && x <= greatestX[kind];
        boolean goodY = greatestY[kind] < 0 || y >= 0 && y <= greatestY[kind];
        return goodX && goodY;
    }

    private static void everyPoint() {
        about = "No call ever throws: point";
        for (int kind : KINDS) {
            for (int a : EDGES) {
                LoanChecker some = new LoanChecker();
                LoanChecker full = flow(ALL_POINTS);
                for (int b : EDGES) {
                    String call = "point(" + kind + ", " + a + ", " + b + ")";
                    int number = some.points();
                    due(call, some.point(kind, a, b), isGood(kind, a, b) ? number : BAD);
                    due(call + " when full", full.point(kind, a, b), isGood(kind, a, b) ? FULL : BAD);
                }
            }
        }
    }

    private static void everyChange() {
        about = "No call ever throws: change";
        for (int p : EDGES) {
            for (int kind : KINDS) {
                for (int a : EDGES) {
                    LoanChecker x = flow(SOME_POINTS);
                    boolean isThere = p >= 0 && p < SOME_POINTS.length;
                    int former = isThere ? kindOf(SOME_POINTS[p]) : BAD;
                    for (int b : EDGES) {
                        boolean good = isThere && isGood(kind, a, b);
                        due("change(" + p + ", " + kind + ", " + a + ", " + b + ")", x.change(p, kind, a, b), good ? former : BAD);
                        if (good) former = kind;
                    }
                }
            }
        }
    }

    private static void everyQuestion() {
        about = "No call ever throws: the others";
        for (int[] points : new int[][] {NO_POINTS, SOME_POINTS, ALL_POINTS}) {
            for (int a : EDGES) {
                LoanChecker x = flow(points);
                boolean isThere = a >= 0 && a < points.length;
                for (int b : EDGES) {
                    boolean goodReference = isThere && b >= 0 && b <= 3;
                    boolean bothThere = isThere && b >= 0 && b < points.length;
                    String with = "(" + a + ", " + b + ") with " + points.length;
                    due("holds" + with, x.holds(a, b) == BAD, !goodReference);
                    due("free" + with, x.free(a, b) && !goodReference, false);
                    due("wanted" + with, x.wanted(a, b) && !goodReference, false);
                    due("shown" + with, x.shown(a, b) == BAD, !bothThere);
                }
                due("conflicts " + a, x.conflicts(a) == BAD, !isThere);
                due("span " + a, x.span(a) == BAD, !isThere);
                due("reached " + a, x.reached(a) && !isThere, false);
                due("unset " + a, x.unset(a) && !isThere, false);
                due("idle " + a, x.idle(a) && !isThere, false);
            }
        }
    }

    // ---- 'A refused call answers the code named and changes nothing' ----

    private static final int[][] WRONG_POINTS = {
        {-1, 0, 0}, {12, 0, 0}, {LEAST, 0, 0}, {GREATEST, 0, 0}, {SET, -1, 0}, {SET, 4, 0}, {READ, 4, 0}, {CONSUME, GREATEST, 0},
        {SHARE, 4, 0}, {SHARE, 0, 4}, {LEND, -1, 0}, {LEND, 0, -1}, {MOVE, 4, 0}, {MOVE, 0, 4}, {COPY, LEAST, 0}, {COPY, 0, LEAST},
        {12, 2, 3}, {-1, 3, 1}, {SHARE, 2, 4}, {LEND, 4, 3}, {MOVE, 3, -1}, {COPY, -1, 2}, {USE, 4, 0}, {RELEASE, -1, 0}, {GOTO, 25, 0}, {GOTO, -1, 0}, {BRANCH, 25, 0}, {BRANCH, LEAST, 0}};

    private static void refusedPoint() {
        about = "A refused call changes nothing: point with BAD_ARG";
        for (int[] w : WRONG_POINTS) {
            String call = "point(" + w[0] + ", " + w[1] + ", " + w[2] + ")";
            for (int[] points : new int[][] {NO_POINTS, SOME_POINTS, ALL_POINTS}) {
                changesNothing(call, points, BAD, x -> x.point(w[0], w[1], w[2]));
            }
        }
    }

    private static void refusedFull() {
        about = "A refused call changes nothing: point with FULL";
        for (int kind = SET; kind <= STOP; kind++) {
            int refusedKind = kind;
            changesNothing("point of kind " + kind, ALL_POINTS, FULL, x -> x.point(refusedKind, 1, 2));
        }
    }

    private static void refusedChange() {
        about = "A refused call changes nothing: change";
        for (int[] w : WRONG_POINTS) {
            String call = "change(1, " + w[0] + ", " + w[1] + ", " + w[2] + ")";
            for (int[] points : new int[][] {SOME_POINTS, ALL_POINTS}) {
                changesNothing(call, points, BAD, x -> x.change(1, w[0], w[1], w[2]));
            }
        }
        for (int[] points : new int[][] {NO_POINTS, SOME_POINTS, ALL_POINTS}) {
            for (int p : new int[] {LEAST, -1, points.length, 24, 25, GREATEST}) {
                changesNothing("change of " + p, points, BAD, x -> x.change(p, LEND, 0, 0));
            }
        }
    }

    private static void refusedDrop() {
        about = "A refused call changes nothing: drop";
        changesNothing("drop", NO_POINTS, NONE, x -> x.drop());
        LoanChecker x = new LoanChecker();
        for (int i = 0; i < 30; i++) due("drop again", x.drop(), NONE);
        due("the first is still 0", x.point(READ, 0, 0), 0);
        due("and is reached", x.reached(0), true);
    }

    private static void refusedQuestions() {
        about = "A refused call changes nothing: the others";
        for (int[] points : new int[][] {NO_POINTS, SOME_POINTS, ALL_POINTS}) {
            for (int bad : new int[] {LEAST, -1, 24, GREATEST}) {
                changesNothing("holds of " + bad, points, BAD, x -> x.holds(bad, 0));
                changesNothing("conflicts of " + bad, points, BAD, x -> x.conflicts(bad));
                changesNothing("span of " + bad, points, BAD, x -> x.span(bad));
                changesNothing("shown of " + bad, points, BAD, x -> x.shown(bad, 0));
                changesNothing("reached of " + bad, points, 0, x -> x.reached(bad) ? 1 : 0);
                changesNothing("free of " + bad, points, 0, x -> x.free(bad, 0) ? 1 : 0);
                changesNothing("wanted of " + bad, points, 0, x -> x.wanted(bad, 0) ? 1 : 0);
                changesNothing("unset of " + bad, points, 0, x -> x.unset(bad) ? 1 : 0);
                changesNothing("idle of " + bad, points, 0, x -> x.idle(bad) ? 1 : 0);
            }
        }
        changesNothing("holds of 4", ALL_POINTS, BAD, x -> x.holds(1, 4));
        changesNothing("shown that is not", ALL_POINTS, NONE, x -> x.shown(0, 0));
    }

    private static void questionsChangeNothing() {
        about = "a question changes nothing";
        for (int question = 0; question < questions(SOME_POINTS.length); question++) {
            int asked = question;
            int answer = ask(flow(SOME_POINTS), SOME_POINTS.length, question);
            changesNothing("question " + question, SOME_POINTS, answer, x -> ask(x, SOME_POINTS.length, asked));
        }
    }

    // ---- 'An object is used for at most 512 calls' ----

    /** An object whose next call is the given one of its calls, with the flow of ALL_POINTS. */
    private static LoanChecker usedUpTo(int call) {
        LoanChecker x = flow(ALL_POINTS);
        for (int i = 24; i < call - 1; i++) {
            int p = i % 24;
            if (i % 3 == 0) put(x, p, ALL_POINTS[p]);
            else ask(x, 24, i * 7 % questions(24));
        }
        return x;
    }

    private static void the512thCall() {
        about = "An object is used for at most 512 calls: the 512th";
        for (int question = 0; question < questions(24); question++) {
            due("question " + question, ask(usedUpTo(CALLS), 24, question), ask(flow(ALL_POINTS), 24, question));
        }
        due("point", usedUpTo(CALLS).point(SET, 0, 0), FULL);
        due("a wrong point", usedUpTo(CALLS).point(SET, 4, 0), BAD);
        due("change", usedUpTo(CALLS).change(23, SET, 0, 0), USE);
        due("drop", usedUpTo(CALLS).drop(), 23);
    }

    private static void allOf512Calls() {
        about = "An object is used for at most 512 calls: points that come and go";
        LoanChecker x = new LoanChecker();
        for (int round = 0; round < 10; round++) {
            for (int i = 0; i < 24; i++) due("point", append(x, ALL_POINTS[i]), i);
            for (int i = 23; i >= 0; i--) due("drop", x.drop(), i);
        }
        for (int i = 0; i < 24; i++) due("point", append(x, ALL_POINTS[i]), i);
        LoanChecker other = flow(ALL_POINTS);
        for (int call = 10 * 48 + 24 + 1; call <= CALLS; call++) {
            due("call " + call, ask(x, 24, CALLS - call), ask(other, 24, CALLS - call));
        }
    }

    /** 'what later calls answer is free', but 'No call ever throws'. */
    private static void laterCallsDoNotThrow() {
        about = "later calls do not throw";
        LoanChecker x = usedUpTo(CALLS);
        for (int i = 0; i < 5000; i++) {
            ask(x, 24, i % questions(24));
            if (i % 7 == 0) put(x, i % 24, ALL_POINTS[(i + 5) % 24]);
            if (i % 11 == 0) x.drop();
            if (i % 5 == 0) append(x, ALL_POINTS[i % 24]);
        }
        for (int a : EDGES) {
            for (int b : EDGES) everyCall(x, a, b);
        }
    }

    private static void everyCall(LoanChecker x, int a, int b) {
        x.holds(a, b);
        x.free(a, b);
        x.wanted(a, b);
        x.shown(a, b);
        x.conflicts(a);
        x.span(a);
        x.reached(a);
        x.unset(a);
        x.idle(a);
        x.points();
        x.faults();
        x.firstFault();
        x.broken();
        for (int kind : KINDS) {
            x.change(a, kind, b, a);
            x.change(3, kind, a, b);
            x.drop();
            x.point(kind, a, b);
            if (x.points() < 23) append(x, ALL_POINTS[x.points()]);
        }
    }
}
