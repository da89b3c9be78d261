/**
 * A test of its own for each sentence of the document that names a boundary case. Each begins with
 * the sentence. What the document says of refused calls and of 512 calls is in RefusedTests.
 */
public final class BoundaryTests extends Checks {
    /** The two at each side of 0 to 3, those beyond, and the ends of int. */
    private static final int[] ROUND_FOUR = {LEAST, -1, 0, 3, 4, GREATEST};

    public static void main(String[] args) {
        constants();
        ownersInPoints();
        referencesInPoints();
        referencesInCalls();
        fourOwners();
        fourReferences();
        atMost24Points();
        pointNumbersOfJumps();
        moveToItself();
        copyToItself();
        passingOnNothing();
        movedAway();
        begins();
        behindGoto();
        behindBranch();
        usedOnOneWay();
        backwardChain();
        behindStop();
        behindOthers();
        noPointThere();
        noPointAnyMore();
        noWayRound();
        nothingHeldAtBegin();
        ownersEmptyAtBegin();
        fullAndEmpty();
        beforeThePointIsDone();
        whatWritesAndReads();
        laterAndStillLater();
        thisVeryLoan();
        noPoint();
        pointKinds();
        pointNotNeeded();
        pointOrder();
        changeAnswers();
        changeWhenFull();
        changeOfOnePart();
        dropToNone();
        dropFromFull();
        numberOfPoints();
        reachedEnds();
        holdsEnds();
        holdsNotReached();
        freeEnds();
        wantedEnds();
        wantedInARing();
        conflictsEnds();
        conflictAtLastPoint();
        unsetKinds();
        idleKinds();
        faultsEnds();
        firstFaultEnds();
        spanWithoutLoan();
        spanEnds();
        brokenEnds();
        shownNone();
        shownLeast();
        shownOfEachReference();
        shownRoundTheLoop();
        wantedWhateverIsHeld();
        wantedOfThisReferenceAlone();
        wantedEndsAndCarriers();
        spanUseAtPItself();
        end("all sentences on boundary cases hold");
    }

    private static boolean isOneOfFour(int value) {
        return value >= 0 && value <= 3;
    }

    /** Appended to a new object, since a full one would answer otherwise. */
    private static void dueAsFirst(int kind, int x, int y, boolean isGood) {
        String call = "point(" + kind + ", " + x + ", " + y + ")";
        due(call, new LoanChecker().point(kind, x, y), isGood ? 0 : BAD);
        LoanChecker one = flow(at(STOP, 0));
        due("change to " + call, one.change(0, kind, x, y), isGood ? STOP : BAD);
    }

    // ---- Terms ----

    private static void constants() {
        about = "BAD_ARG = -1, FULL = -2, NONE = -3";
        due("BAD_ARG", LoanChecker.BAD_ARG, -1);
        due("FULL", LoanChecker.FULL, -2);
        due("NONE", LoanChecker.NONE, -3);
    }

    private static void ownersInPoints() {
        about = "There are four OWNERS, 0 to 3";
        for (int owner : ROUND_FOUR) {
            for (int kind = SET; kind <= CONSUME; kind++) dueAsFirst(kind, owner, 0, isOneOfFour(owner));
            for (int kind = SHARE; kind <= LEND; kind++) dueAsFirst(kind, 0, owner, isOneOfFour(owner));
        }
    }

    private static void referencesInPoints() {
        about = "and four REFERENCES, 0 to 3";
        for (int reference : ROUND_FOUR) {
            for (int kind = SHARE; kind <= RELEASE; kind++) dueAsFirst(kind, reference, 0, isOneOfFour(reference));
            for (int kind = MOVE; kind <= COPY; kind++) dueAsFirst(kind, 0, reference, isOneOfFour(reference));
        }
    }

    private static void referencesInCalls() {
        about = "with a reference r not 0 to 3, answers BAD_ARG (or false)";
        LoanChecker x = flow(at(LEND, 0, 0), at(LEND, 3, 0), at(BRANCH, 4), at(RELEASE, 0), at(BRANCH, 6), at(RELEASE, 3), at(USE, 0), at(USE, 3));
        for (int r : ROUND_FOUR) {
            due("holds(6, " + r + ")", x.holds(6, r), !isOneOfFour(r) ? BAD : r == 0 ? set(0) : set(1));
            due("free(6, " + r + ")", x.free(6, r), isOneOfFour(r));
            due("wanted(6, " + r + ")", x.wanted(6, r), isOneOfFour(r));
        }
    }

    private static void fourOwners() {
        about = "four OWNERS are four";
        for (int lent = 0; lent <= 3; lent++) {
            for (int other = 0; other <= 3; other++) {
                LoanChecker x = flow(at(SET, lent), at(LEND, 0, lent), at(SET, other), at(CONSUME, other), at(READ, lent), at(USE, 0));
                due("set " + other + ", lent " + lent, x.conflicts(2), lent == other ? set(1) : 0);
                due("consume " + other + ", lent " + lent, x.conflicts(3), lent == other ? set(1) : 0);
                due("consumed " + other + ", read " + lent, x.unset(4), lent == other);
            }
        }
    }

    private static void fourReferences() {
        about = "four REFERENCES are four";
        for (int holder = 0; holder <= 3; holder++) {
            for (int other = 0; other <= 3; other++) {
                LoanChecker x = flow(at(SHARE, holder, 0), at(USE, other), at(RELEASE, other), at(USE, holder));
                due("held by " + holder + " of " + other, x.holds(1, other), holder == other ? set(0) : 0);
                due("free " + other + ", held by " + holder, x.free(1, other), holder != other);
                due("idle " + other + ", held by " + holder, x.idle(1), holder != other);
                due("released " + other + ", used " + holder, x.idle(3), holder == other);
                due("wanted " + other + ", used " + holder, x.wanted(3, other), holder == other);
            }
        }
    }

    private static void atMost24Points() {
        about = "A flow has at most 24 POINTS, numbered from 0 on";
        LoanChecker x = new LoanChecker();
        for (int i = 0; i < 24; i++) {
            due("not there yet", x.reached(i), false);
            due("its number", x.point(SET, 0, 0), i);
            due("it is there", x.reached(i), true);
        }
        due("the 25th", x.point(SET, 0, 0), FULL);
        due("points", x.points(), 24);
        due("the point 24", x.conflicts(24), BAD);
        due("the point 23", x.conflicts(23), 0);
        due("the point -1", x.conflicts(-1), BAD);
        due("the point 0", x.conflicts(0), 0);
    }

    private static void pointNumbersOfJumps() {
        about = "k a point number from 0 to 24";
        for (int kind = GOTO; kind <= BRANCH; kind++) {
            for (int k : new int[] {LEAST, -2, -1, 25, 26, GREATEST}) dueAsFirst(kind, k, 0, false);
            for (int k = 0; k <= 24; k++) dueAsFirst(kind, k, 0, true);
        }
    }

    private static void moveToItself() {
        about = "(if r is q nothing changes)";
        for (int r = 0; r <= 3; r++) {
            LoanChecker x = flow(at(MOVE, r, r), at(LEND, r, 0), at(MOVE, r, r), at(SET, 0), at(MOVE, r, r), at(USE, r));
            due("nothing held", x.free(1, r), true);
            due("nothing held, no loan", x.holds(1, r), 0);
            due("held", x.holds(3, r), set(1));
            due("held, not free", x.free(3, r), false);
            due("wanted before", x.wanted(2, r), true);
            due("in conflict before it", x.conflicts(3), set(1));
            due("span", x.span(1), set(2, 3, 4, 5));
            due("shown", x.shown(1, 3), 6);
            due("idle", x.idle(5), false);
        }
    }

    private static void copyToItself() {
        about = "6 copy r q: r holds what q holds";
        for (int r = 0; r <= 3; r++) {
            LoanChecker x = flow(at(COPY, r, r), at(LEND, r, 0), at(COPY, r, r), at(SET, 0), at(COPY, r, r), at(USE, r));
            due("nothing held", x.free(1, r), true);
            due("held", x.holds(3, r), set(1));
            due("held, not free", x.free(3, r), false);
            due("wanted before", x.wanted(2, r), true);
            due("span", x.span(1), set(2, 3, 4, 5));
            due("shown", x.shown(1, 3), 6);
        }
    }

    private static void passingOnNothing() {
        about = "5 move r q: r holds what q held, q nothing; 8 release r: r holds nothing";
        for (int kind = MOVE; kind <= COPY; kind++) {
            LoanChecker x = flow(at(SHARE, 0, 0), at(kind, 0, 3), at(RELEASE, 3), at(RELEASE, 0), at(USE, 0));
            due("nothing to r, kind " + kind, x.holds(2, 0), 0);
            due("r is free, kind " + kind, x.free(2, 0), true);
            due("q is free, kind " + kind, x.free(2, 3), true);
            due("released though it held nothing", x.free(3, 3), true);
            due("released again", x.free(4, 0), true);
            due("its loan has ended", x.span(0), 0);
        }
    }

    private static void movedAway() {
        about = "5 move r q: r holds what q held, q nothing";
        for (int r = 0; r <= 3; r++) {
            int q = (r + 1) % 4;
            LoanChecker x = flow(at(SHARE, r, 1), at(LEND, q, 0), at(MOVE, r, q), at(USE, q), at(USE, r));
            due("r holds what q held", x.holds(3, r), set(1));
            due("q holds it no more", x.holds(3, q), 0);
            due("q holds nothing", x.free(3, q), true);
            due("q is idle", x.idle(3), true);
            due("r is not", x.idle(4), false);
            due("what r held has ended", x.span(0), 0);
            due("what q held is used by r", x.span(1), set(2, 3, 4));
        }
    }

    private static void begins() {
        about = "A PATH is a list of points that begins with 0";
        for (int kind = SET; kind <= STOP; kind++) {
            LoanChecker x = flow(at(kind, 0));
            due("the only point, kind " + kind, x.reached(0), true);
            due("no other, kind " + kind, x.reached(1), false);
        }
        LoanChecker x = flow(at(STOP, 0), at(SET, 0), at(GOTO, 1));
        due("a ring that 0 does not lead to", x.reached(1), false);
        due("a ring that 0 does not lead to", x.reached(2), false);
    }

    private static void behindGoto() {
        about = "behind a goto k comes k";
        LoanChecker itself = flow(at(SET, 0), at(GOTO, 1), at(SET, 0));
        due("to itself", itself.reached(1), true);
        due("to itself, the next", itself.reached(2), false);
        LoanChecker next = flow(at(GOTO, 1), at(SET, 0));
        due("to the next", next.reached(1), true);
        LoanChecker begin = flow(at(SHARE, 0, 0), at(GOTO, 0), at(SET, 0));
        due("to 0", begin.holds(0, 0), set(0));
        due("to 0, the next", begin.reached(2), false);
        LoanChecker last = flow(filled(at(SET, 0), at(GOTO, 23)));
        due("to 23", last.reached(23), true);
        due("to 23, the next", last.reached(1), false);
        due("to 23, the one before", last.reached(22), false);
    }

    private static void behindBranch() {
        about = "behind a branch k comes k or the next point";
        LoanChecker itself = flow(at(SHARE, 0, 0), at(BRANCH, 1), at(SET, 0), at(USE, 0));
        due("to itself, the next", itself.reached(2), true);
        due("to itself, once round is not needed", itself.shown(0, 2), 4);
        LoanChecker next = flow(at(SHARE, 0, 0), at(BRANCH, 2), at(SET, 0), at(USE, 0));
        due("to the next", next.shown(0, 2), 4);
        LoanChecker last = flow(at(SHARE, 0, 0), at(USE, 1), at(MOVE, 1, 0), at(BRANCH, 0));
        due("at the last point", last.holds(0, 1), set(0));
        LoanChecker both = flow(filled(at(SET, 0), at(BRANCH, 23), at(STOP, 0)));
        due("the next", both.reached(1), true);
        due("k", both.reached(23), true);
        due("no other", both.reached(2), false);
        due("no other", both.reached(22), false);
    }

    private static void usedOnOneWay() {
        about = "behind a branch k comes k or the next point: a use on one way is enough";
        LoanChecker jump = flow(at(LEND, 0, 0), at(SET, 0), at(BRANCH, 4), at(STOP, 0), at(USE, 0));
        due("by k, wanted", jump.wanted(2, 0), true);
        due("by k, span", jump.span(0), set(1, 2, 4));
        due("by k, shown", jump.shown(0, 1), 4);
        LoanChecker next = flow(at(LEND, 0, 0), at(SET, 0), at(BRANCH, 4), at(USE, 0), at(STOP, 0));
        due("by the next, wanted", next.wanted(2, 0), true);
        due("by the next, span", next.span(0), set(1, 2, 3));
        due("by the next, shown", next.shown(0, 1), 4);
    }

    private static void backwardChain() {
        about = "behind a goto k comes k: from the end to the begin, one after the other";
        int[] points = new int[24];
        points[0] = at(GOTO, 23);
        points[1] = at(READ, 0);
        points[2] = at(USE, 0);
        for (int p = 3; p < 23; p += 2) {
            points[p] = at(SET, 1);
            points[p + 1] = at(GOTO, p - 2);
        }
        points[23] = at(GOTO, 21);
        LoanChecker x = flow(points);
        due("the first of the chain", x.reached(21), true);
        due("the last of the chain", x.reached(2), true);
        due("empty all the way", x.unset(1), true);
        due("free all the way", x.free(2, 0), true);
        due("wanted all the way", x.wanted(0, 0), true);
        put(x, 21, at(LEND, 0, 0));
        due("held all the way", x.holds(2, 0), set(21));
        due("in conflict at the end", x.conflicts(1), set(21));
        due("shown", x.shown(21, 1), 2 + 2 * 10 + 2);
    }

    private static void behindStop() {
        about = "behind a stop nothing";
        LoanChecker x = flow(at(STOP, 1), at(SET, 0));
        due("the next", x.reached(1), false);
        LoanChecker whole = flow(filled(at(USE, 0), at(SHARE, 0, 0), at(STOP, 0)));
        for (int p = 2; p < 24; p++) due("reached " + p, whole.reached(p), false);
        due("its loan is used nowhere", whole.span(0), 0);
        due("wanted nowhere", whole.wanted(1, 0), false);
    }

    private static void behindOthers() {
        about = "behind others the next point";
        for (int kind = SET; kind <= RELEASE; kind++) {
            LoanChecker x = flow(at(kind, 3, 2), at(STOP, 0), at(STOP, 0), at(STOP, 0));
            due("the next, kind " + kind, x.reached(1), true);
            due("not the one named, kind " + kind, x.reached(3), false);
            due("not the one named, kind " + kind, x.reached(2), false);
        }
    }

    private static void noPointThere() {
        about = "a number at which there is no point does not come in a path";
        for (int k : new int[] {3, 4, 23, 24}) {
            LoanChecker x = flow(at(SET, 0), at(GOTO, k), at(SET, 0));
            due("goto " + k, x.reached(2), false);
            due("goto " + k + " itself", x.reached(k), false);
            LoanChecker y = flow(at(SET, 0), at(BRANCH, k), at(SET, 0));
            due("branch " + k, y.reached(2), true);
            due("branch " + k + " itself", y.reached(k), false);
        }
        LoanChecker whole = flow(filled(at(GOTO, 24), at(SHARE, 0, 0), at(GOTO, 24)));
        due("goto 24 with 24 points", whole.reached(2), false);
        due("no way back to 0 either", whole.holds(0, 0), 0);
        LoanChecker either = flow(filled(at(SET, 0), at(SHARE, 0, 0), at(BRANCH, 24)));
        due("branch 24 with 24 points", either.reached(23), true);
        due("no way back to 0 either", either.holds(0, 0), 0);
    }

    private static void noPointAnyMore() {
        about = "a number at which there is no point, when points come and go";
        LoanChecker x = flow(at(SHARE, 0, 0), at(BRANCH, 3), at(SET, 0));
        due("used nowhere yet", x.span(0), 0);
        due("a third", append(x, at(USE, 0)), 3);
        due("used there", x.span(0), set(1, 2, 3));
        due("shown there", x.shown(0, 2), 4);
        due("taken away", x.drop(), 3);
        due("used nowhere any more", x.span(0), 0);
        due("in conflict nowhere", x.conflicts(2), 0);
        due("shown nowhere", x.shown(0, 2), NONE);
        due("wanted nowhere", x.wanted(1, 0), false);
        due("another in its place", append(x, at(STOP, 0)), 3);
        due("it is no use", x.span(0), 0);
    }

    private static void noWayRound() {
        about = "behind the last point comes nothing";
        LoanChecker x = flow(filled(at(SET, 1), at(USE, 0)));
        due("a loan made at 23", put(x, 23, at(LEND, 0, 0)), SET);
        due("it is held nowhere", x.holds(0, 0), 0);
        due("it is used nowhere", x.span(23), 0);
        due("nothing is wanted at 23", x.wanted(23, 0), false);
    }

    private static void nothingHeldAtBegin() {
        about = "each reference holds a loan or nothing (at its begin nothing)";
        for (int r = 0; r <= 3; r++) {
            LoanChecker x = flow(at(USE, r), at(SHARE, r, 0), at(GOTO, 0));
            due("a path may be at its begin, reference " + r, x.free(0, r), true);
            due("and may come back, reference " + r, x.holds(0, r), set(1));
            due("idle at the begin, reference " + r, x.idle(0), true);
            due("never empty-handed behind, reference " + r, x.free(2, r), false);
        }
    }

    private static void ownersEmptyAtBegin() {
        about = "each owner is FULL or EMPTY (at its begin empty)";
        for (int o = 0; o <= 3; o++) {
            due("read " + o, flow(at(READ, o)).unset(0), true);
            LoanChecker x = flow(at(READ, o), at(SET, o), at(GOTO, 0));
            due("it counts though a loop comes back full, owner " + o, x.unset(0), true);
        }
    }

    private static void fullAndEmpty() {
        about = "full after set, empty after consume";
        LoanChecker x = flow(at(SET, 0), at(SET, 0), at(READ, 0), at(CONSUME, 0), at(CONSUME, 0), at(SET, 0), at(CONSUME, 0), at(READ, 0));
        boolean[] want = {false, false, false, false, true, false, false, true};
        for (int p = 0; p < want.length; p++) due("unset " + p, x.unset(p), want[p]);
        for (int kind = READ; kind <= BRANCH; kind++) {
            if (kind == CONSUME || kind == GOTO) continue;
            LoanChecker full = flow(at(SET, 0), at(kind, 0, 0), at(READ, 0));
            due("full behind kind " + kind, full.unset(2), false);
            LoanChecker empty = flow(at(SET, 1), at(kind, 0, 0), at(READ, 0));
            due("empty behind kind " + kind, empty.unset(2), true);
        }
    }

    private static void beforeThePointIsDone() {
        about = "what is held, full or empty there is so before the point is done";
        LoanChecker x = flow(at(SHARE, 0, 0), at(MOVE, 1, 0), at(COPY, 2, 1), at(RELEASE, 1), at(CONSUME, 0), at(SET, 0), at(CONSUME, 0));
        due("share", x.holds(0, 0), 0);
        due("share", x.free(0, 0), true);
        due("move, from", x.holds(1, 0), set(0));
        due("move, to", x.holds(1, 1), 0);
        due("copy, to", x.holds(2, 2), 0);
        due("release", x.holds(3, 1), set(0));
        due("release", x.free(3, 1), false);
        due("consume what is empty", x.unset(4), true);
        due("consume what is full", x.unset(6), false);
    }

    private static void whatWritesAndReads() {
        about = "set, consume and lend WRITE their owner, read and share READ it";
        boolean[] writes = {true, false, true, false, true};
        for (int kind = SET; kind <= STOP; kind++) {
            int x = kind == LEND || kind == SHARE ? 3 : 0;
            int touching = kind >= GOTO ? at(kind, 2) : at(kind, x, 0);
            boolean touches = kind <= LEND;
            boolean breaksShared = touches && writes[kind];
            LoanChecker shared = flow(at(SHARE, 1, 0), touching, at(USE, 1));
            due("a shared loan, kind " + kind, shared.conflicts(1), breaksShared ? set(0) : 0);
            LoanChecker single = flow(at(LEND, 1, 0), touching, at(USE, 1));
            due("a single loan, kind " + kind, single.conflicts(1), touches ? set(0) : 0);
        }
    }

    private static void laterAndStillLater() {
        about = "b makes it, later p is done, and still later a use";
        due("p before b", flow(at(SET, 0), at(LEND, 0, 0), at(USE, 0)).conflicts(0), 0);
        due("p at once b", flow(at(LEND, 0, 0), at(USE, 0)).conflicts(0), 0);
        due("p behind the use", flow(at(LEND, 0, 0), at(USE, 0), at(SET, 0)).conflicts(2), 0);
        due("p between", flow(at(LEND, 0, 0), at(SET, 0), at(USE, 0)).conflicts(1), set(0));
        due("p before b, but in a loop", flow(at(SET, 0), at(USE, 0), at(LEND, 0, 0), at(GOTO, 0)).conflicts(0), set(2));
        due("p is b, in a loop", flow(at(LEND, 0, 0), at(USE, 1), at(MOVE, 1, 0), at(GOTO, 0)).conflicts(0), set(0));
    }

    private static void thisVeryLoan() {
        about = "a use uses a reference that holds this very loan then";
        LoanChecker renewed = flow(at(LEND, 0, 0), at(USE, 0), at(SET, 0), at(GOTO, 0));
        due("another loan of the same point", renewed.conflicts(2), 0);
        due("another loan of the same point, shown", renewed.shown(0, 2), NONE);
        LoanChecker other = flow(at(SHARE, 0, 0), at(SET, 0), at(SHARE, 0, 0), at(USE, 0));
        due("another loan of the same owner", other.conflicts(1), 0);
        LoanChecker back = flow(at(SHARE, 0, 0), at(MOVE, 1, 0), at(SET, 0), at(MOVE, 0, 1), at(USE, 0));
        due("away and back", back.conflicts(2), set(0));
    }

    // ---- Promises 1 to 5 ----

    private static void noPoint() {
        about = "Promise 1: No point";
        LoanChecker x = new LoanChecker();
        due("points", x.points(), 0);
        due("faults", x.faults(), 0);
        due("firstFault", x.firstFault(), NONE);
        due("broken", x.broken(), 0);
        for (int p : new int[] {LEAST, -1, 0, 1, 23, 24, GREATEST}) {
            due("change", x.change(p, STOP, 0, 0), BAD);
            due("reached", x.reached(p), false);
            due("holds", x.holds(p, 0), BAD);
            due("free", x.free(p, 0), false);
            due("wanted", x.wanted(p, 0), false);
            due("conflicts", x.conflicts(p), BAD);
            due("unset", x.unset(p), false);
            due("idle", x.idle(p), false);
            due("span", x.span(p), BAD);
            due("shown", x.shown(p, p), BAD);
        }
        due("drop", x.drop(), NONE);
        due("the first", x.point(STOP, 0, 0), 0);
    }

    private static void pointKinds() {
        about = "Promise 2: kind 0 to 11";
        for (int kind : new int[] {LEAST, -2, -1, 12, 13, GREATEST}) dueAsFirst(kind, 0, 0, false);
        for (int kind = 0; kind <= 11; kind++) dueAsFirst(kind, 0, 0, true);
    }

    private static void pointNotNeeded() {
        about = "Promise 2: (those not needed do not matter)";
        for (int beside : new int[] {LEAST, -1, 4, 25, GREATEST}) {
            for (int kind : new int[] {SET, READ, CONSUME, USE, RELEASE}) dueAsFirst(kind, 3, beside, true);
            for (int kind : new int[] {GOTO, BRANCH}) dueAsFirst(kind, 24, beside, true);
            dueAsFirst(STOP, beside, beside, true);
        }
        LoanChecker x = new LoanChecker();
        x.point(SET, 0, GREATEST);
        x.point(LEND, 0, 0);
        x.point(READ, 0, LEAST);
        x.point(BRANCH, 4, LEAST);
        x.point(CONSUME, 0, 3);
        x.point(USE, 0, GREATEST);
        x.point(RELEASE, 0, 3);
        x.point(GOTO, 8, GREATEST);
        x.point(STOP, LEAST, GREATEST);
        due("the read conflicts", x.conflicts(2), set(1));
        due("the consume conflicts", x.conflicts(4), set(1));
        due("the use is one", x.span(1), set(2, 3, 4, 5));
        due("the release is one", x.free(7, 0), true);
        due("the goto is one", x.reached(8), true);
        due("faults", x.faults(), 2);
    }

    private static void pointOrder() {
        about = "Promise 2: Tested in this order: kind, x or y out of range answers BAD_ARG; FULL";
        LoanChecker x = flow(filled(at(STOP, 0)));
        for (int kind = 0; kind <= 11; kind++) due("good, kind " + kind, x.point(kind, 0, 0), FULL);
        for (int kind : new int[] {LEAST, -1, 12, GREATEST}) due("kind " + kind, x.point(kind, 0, 0), BAD);
        for (int kind = SET; kind <= RELEASE; kind++) due("x, kind " + kind, x.point(kind, 4, 0), BAD);
        for (int kind = SHARE; kind <= COPY; kind++) due("y, kind " + kind, x.point(kind, 0, -1), BAD);
        for (int kind = GOTO; kind <= BRANCH; kind++) {
            due("k, kind " + kind, x.point(kind, 25, 0), BAD);
            due("k allowed, kind " + kind, x.point(kind, 24, 0), FULL);
        }
        due("points", x.points(), 24);
    }

    private static void changeAnswers() {
        about = "Promise 3: Otherwise the kind that it had";
        LoanChecker x = flow(at(STOP, 0), at(STOP, 0), at(STOP, 0));
        int former = STOP;
        for (int kind = 0; kind <= 11; kind++) {
            due("to kind " + kind, x.change(2, kind, 0, 0), former);
            due("to the same kind " + kind, x.change(2, kind, 0, 0), kind);
            former = kind;
        }
        due("the first of them", x.change(0, SET, 0, 0), STOP);
        due("one beyond", x.change(3, SET, 0, 0), BAD);
        due("one below", x.change(-1, SET, 0, 0), BAD);
        due("the greatest", x.change(GREATEST, SET, 0, 0), BAD);
        due("the least", x.change(LEAST, SET, 0, 0), BAD);
        due("points", x.points(), 3);
    }

    private static void changeWhenFull() {
        about = "Promise 3: BAD_ARG as for point, and with 24 points no FULL";
        LoanChecker x = flow(filled(at(STOP, 0)));
        for (int p = 0; p < 24; p++) due("change of " + p, x.change(p, SET, 3, 0), STOP);
        for (int p = 0; p < 24; p++) due("reached " + p, x.reached(p), true);
        due("change of 24", x.change(24, SET, 3, 0), BAD);
        due("a wrong kind", x.change(23, 12, 0, 0), BAD);
        due("a wrong x", x.change(23, SET, 4, 0), BAD);
        due("a wrong y", x.change(23, MOVE, 0, 4), BAD);
        due("a wrong k", x.change(23, GOTO, 25, 0), BAD);
        due("the greatest k", x.change(23, GOTO, 24, 0), SET);
    }

    private static void changeOfOnePart() {
        about = "Promise 3: Point p becomes another one";
        LoanChecker x = flow(at(SET, 0), at(LEND, 1, 0), at(READ, 0), at(USE, 1));
        due("a conflict", x.conflicts(2), set(1));
        due("the owner alone", put(x, 1, at(LEND, 1, 2)), LEND);
        due("of another owner", x.conflicts(2), 0);
        due("the owner again", put(x, 1, at(LEND, 1, 0)), LEND);
        due("as before", x.conflicts(2), set(1));
        due("the reference alone", put(x, 1, at(LEND, 2, 0)), LEND);
        due("by another reference", x.conflicts(2), 0);
        due("the kind alone", put(x, 1, at(SHARE, 1, 0)), LEND);
        due("a shared one", x.conflicts(2), 0);
        due("a shared one is held", x.holds(2, 1), set(1));
    }

    private static void dropToNone() {
        about = "Promise 4: NONE if there is none. Otherwise the number of points";
        LoanChecker x = flow(at(SET, 0), at(LEND, 0, 0));
        due("of two", x.drop(), 1);
        due("of one", x.drop(), 0);
        due("of none", x.drop(), NONE);
        due("of none again", x.drop(), NONE);
        due("points", x.points(), 0);
        due("the first again", x.point(READ, 0, 0), 0);
        due("nothing is left of the former", x.unset(0), true);
    }

    private static void dropFromFull() {
        about = "Promise 4: Takes the last point away";
        LoanChecker x = flow(filled(at(READ, 0)));
        due("full", x.point(READ, 0, 0), FULL);
        due("of 24", x.drop(), 23);
        due("23 is gone", x.conflicts(23), BAD);
        due("22 is there", x.unset(22), true);
        due("room for one", x.point(SET, 0, 0), 23);
        due("full again", x.point(SET, 0, 0), FULL);
        for (int left = 23; left >= 0; left--) due("drop", x.drop(), left);
        due("none", x.drop(), NONE);
        for (int i = 0; i < 24; i++) due("all anew", x.point(STOP, 0, 0), i);
        due("full once more", x.point(STOP, 0, 0), FULL);
    }

    private static void numberOfPoints() {
        about = "Promise 5: The number of points";
        LoanChecker x = new LoanChecker();
        for (int i = 0; i < 24; i++) {
            due("before", x.points(), i);
            x.point(12, 0, 0);
            due("after a refused one", x.points(), i);
            x.point(STOP, 0, 0);
            x.change(i, SET, 0, 0);
            due("after a change", x.points(), i + 1);
        }
        x.point(STOP, 0, 0);
        due("when full", x.points(), 24);
        for (int i = 23; i >= 0; i--) {
            x.drop();
            due("after drop", x.points(), i);
        }
        x.drop();
        due("when empty", x.points(), 0);
    }

    // ---- Promises 6 to 12 ----

    private static void reachedEnds() {
        about = "Promise 6: Whether some path comes to point p";
        LoanChecker x = flow(filled(at(USE, 0)));
        for (int p : new int[] {0, 23}) due("reached " + p, x.reached(p), true);
        for (int p : new int[] {LEAST, -1, 24, GREATEST}) due("reached " + p, x.reached(p), false);
        put(x, 22, at(STOP, 0));
        due("behind a stop", x.reached(23), false);
        put(x, 0, at(BRANCH, 23));
        due("past the stop", x.reached(23), true);
    }

    /** Twelve loans of owner 0, at each even point, each with a way to 23 (the last falls into it). */
    private static LoanChecker twelveLoans() {
        int[] points = new int[24];
        for (int p = 0; p < 23; p++) points[p] = p % 2 == 0 ? at(SHARE, 0, 0) : at(BRANCH, 23);
        points[23] = at(USE, 0);
        return flow(points);
    }

    private static void holdsEnds() {
        about = "Promise 7: as the sum of 2 to the power b";
        LoanChecker x = twelveLoans();
        due("the empty set", x.holds(0, 0), 0);
        due("the least point", x.holds(1, 0), 1);
        due("the greatest point that can make one", x.holds(23, 0) & set(22), 1 << 22);
        due("all of them", x.holds(23, 0), 0x555555);
        due("of another reference", x.holds(23, 1), 0);
        for (int p : new int[] {LEAST, -1, 24, GREATEST}) due("holds of " + p, x.holds(p, 0), BAD);
        put(x, 23, at(SHARE, 0, 0));
        due("the loan of 23 is not held before it is made", x.holds(23, 0), 0x555555);
    }

    private static void holdsNotReached() {
        about = "Promise 7: such that a path comes to point p";
        LoanChecker x = flow(at(GOTO, 3), at(SHARE, 0, 0), at(USE, 0), at(STOP, 0));
        due("not reached", x.holds(2, 0), 0);
        due("not reached, wrong reference", x.holds(2, 4), BAD);
        due("behind a way that is not there", x.holds(3, 0), 0);
    }

    private static void freeEnds() {
        about = "Promise 8: Whether a path comes to point p with reference r holding nothing";
        LoanChecker x = flow(at(BRANCH, 2), at(SHARE, 0, 0), at(BRANCH, 4), at(STOP, 0), at(SHARE, 0, 0), at(STOP, 0), at(SET, 0));
        due("one path holds, one does not", x.free(2, 0), true);
        due("what is held besides", x.holds(2, 0), set(1));
        due("all hold", x.free(5, 0), false);
        due("not reached", x.free(6, 1), false);
        LoanChecker whole = flow(filled(at(SET, 0)));
        for (int p : new int[] {0, 23}) due("free of " + p, whole.free(p, 3), true);
        for (int p : new int[] {LEAST, -1, 24, GREATEST}) due("free of " + p, whole.free(p, 3), false);
    }

    private static void wantedEnds() {
        about = "Promise 9: through point p (that is reached); (p itself counts, if it uses r)";
        LoanChecker x = flow(filled(at(SET, 0), at(SET, 1)));
        due("no use", x.wanted(0, 0), false);
        put(x, 23, at(USE, 3));
        for (int p = 0; p < 24; p++) due("up to the last and with it, " + p, x.wanted(p, 3), true);
        due("another", x.wanted(23, 2), false);
        for (int p : new int[] {LEAST, -1, 24, GREATEST}) due("wanted of " + p, x.wanted(p, 3), false);
        put(x, 10, at(STOP, 0));
        due("before a stop", x.wanted(9, 3), false);
        due("the stop itself", x.wanted(10, 3), false);
        due("not reached, though used there", x.wanted(23, 3), false);
        put(x, 11, at(BRANCH, 0));
        put(x, 10, at(USE, 3));
        due("behind its use, in a loop", x.wanted(11, 3), true);
    }

    private static void wantedInARing() {
        about = "Promise 9: a ring without a use";
        LoanChecker x = flow(at(SET, 0), at(GOTO, 0));
        for (int r = 0; r <= 3; r++) {
            due("never used, reference " + r, x.wanted(0, r), false);
            put(x, 0, at(USE, r));
            due("used, reference " + r, x.wanted(1, r), true);
            put(x, 0, at(SET, 0));
            due("used no more, reference " + r, x.wanted(1, r), false);
            due("used no more, reference " + r, x.wanted(0, r), false);
        }
        due("to itself", flow(at(GOTO, 0)).wanted(0, 0), false);
    }

    private static void conflictsEnds() {
        about = "Promise 10: The set of the points b whose loans are in conflict at point p";
        LoanChecker x = twelveLoans();
        put(x, 20, at(GOTO, 21));
        put(x, 22, at(SET, 0));
        for (int p = 1; p < 20; p += 2) put(x, p, at(BRANCH, 22));
        due("all at once", x.conflicts(22), 0x55555);
        due("the least point alone", flow(at(LEND, 0, 0), at(SET, 0), at(USE, 0)).conflicts(1), 1);
        LoanChecker late = flow(filled(at(READ, 1), at(SET, 0), at(USE, 0)));
        put(late, 22, at(LEND, 0, 0));
        due("no way back yet", late.conflicts(0), 0);
        put(late, 23, at(GOTO, 0));
        due("the greatest point alone", late.conflicts(0), 1 << 22);
        for (int p : new int[] {LEAST, -1, 24, GREATEST}) due("conflicts of " + p, late.conflicts(p), BAD);
    }

    private static void conflictAtLastPoint() {
        about = "Promise 10: the use comes behind p";
        LoanChecker x = flow(filled(at(READ, 1), at(LEND, 0, 0), at(USE, 0)));
        put(x, 23, at(SET, 0));
        due("nothing comes behind the last", x.conflicts(23), 0);
        put(x, 22, at(SET, 0));
        put(x, 23, at(USE, 0));
        due("the last uses it", x.conflicts(22), set(0));
        due("the last but the use is no conflict", x.conflicts(23), 0);
    }

    private static void unsetKinds() {
        about = "Promise 11: Whether point p reads its owner, lends or consumes it";
        for (int kind = SET; kind <= STOP; kind++) {
            boolean needs = kind == READ || kind == SHARE || kind == LEND || kind == CONSUME;
            due("kind " + kind, flow(at(kind, 0, 0)).unset(0), needs);
            due("not reached, kind " + kind, flow(at(STOP, 0), at(kind, 0, 0)).unset(1), false);
            due("full, kind " + kind, flow(at(SET, 0), at(kind, 0, 0)).unset(1), false);
        }
        LoanChecker whole = flow(filled(at(READ, 3)));
        for (int p : new int[] {0, 23}) due("unset " + p, whole.unset(p), true);
        for (int p : new int[] {LEAST, -1, 24, GREATEST}) due("unset " + p, whole.unset(p), false);
        put(whole, 22, at(SET, 3));
        due("set just before", whole.unset(23), false);
    }

    private static void idleKinds() {
        about = "Promise 12: Whether point p uses a reference";
        for (int kind = SET; kind <= STOP; kind++) {
            due("kind " + kind, flow(at(kind, 0, 0)).idle(0), kind == USE);
            due("not reached, kind " + kind, flow(at(STOP, 0), at(kind, 0, 0)).idle(1), false);
            due("held, kind " + kind, flow(at(SHARE, 0, 0), at(kind, 0, 0)).idle(1), false);
        }
        LoanChecker whole = flow(filled(at(USE, 3)));
        for (int p : new int[] {0, 23}) due("idle " + p, whole.idle(p), true);
        for (int p : new int[] {LEAST, -1, 24, GREATEST}) due("idle " + p, whole.idle(p), false);
        put(whole, 22, at(LEND, 3, 0));
        due("lent just before", whole.idle(23), false);
    }

    // ---- Promises 13 to 18 ----

    private static void faultsEnds() {
        about = "Promise 13: The number of points at which a loan is in conflict, or that are unset or idle";
        due("no point", new LoanChecker().faults(), 0);
        due("24 points, none", flow(filled(at(SET, 0))).faults(), 0);
        due("24 points, all unset", flow(filled(at(CONSUME, 0))).faults(), 24);
        due("24 points, all idle", flow(filled(at(USE, 0))).faults(), 24);
        LoanChecker conflicts = flow(filled(at(SET, 0), at(SET, 0), at(LEND, 0, 0)));
        put(conflicts, 23, at(USE, 0));
        due("24 points, all that can be in conflict", conflicts.faults(), 21);
        due("a point with two faults counts once", flow(at(SHARE, 0, 0), at(CONSUME, 0), at(CONSUME, 0), at(USE, 0)).faults(), 3);
        due("a point with two loans in conflict counts once", flow(at(SET, 0), at(SHARE, 0, 0), at(SHARE, 1, 0), at(SET, 0), at(USE, 0), at(USE, 1)).faults(), 1);
        due("not reached", flow(at(STOP, 0), at(READ, 0), at(USE, 0)).faults(), 0);
    }

    private static void firstFaultEnds() {
        about = "Promise 14: The least of these points; NONE if there is none";
        due("no point", new LoanChecker().firstFault(), NONE);
        LoanChecker x = flow(filled(at(SET, 0)));
        due("none", x.firstFault(), NONE);
        put(x, 23, at(READ, 1));
        due("the last", x.firstFault(), 23);
        put(x, 0, at(USE, 0));
        due("the first", x.firstFault(), 0);
        put(x, 0, at(GOTO, 0));
        due("none that is reached", x.firstFault(), NONE);
        LoanChecker each = flow(at(SET, 0), at(SHARE, 0, 0), at(SET, 0), at(USE, 0), at(USE, 1), at(READ, 2));
        due("a conflict before an idle and an unset one", each.firstFault(), 2);
    }

    private static void spanWithoutLoan() {
        about = "Promise 15: 0 if b makes no loan";
        for (int kind = SET; kind <= STOP; kind++) {
            int target = kind >= GOTO ? 2 : 0;
            LoanChecker x = flow(at(SHARE, 0, 0), at(kind, target, 0), at(USE, 0), at(USE, 1));
            boolean makes = kind == SHARE || kind == LEND;
            due("kind " + kind, x.span(1), makes ? set(2) : 0);
            due("one that there is not, kind " + kind, x.span(4), BAD);
        }
        LoanChecker x = flow(at(STOP, 0), at(SHARE, 0, 0), at(USE, 0));
        due("no path makes it", x.span(1), 0);
    }

    private static void spanEnds() {
        about = "Promise 15: The set of the points p";
        LoanChecker x = flow(filled(at(SET, 0), at(LEND, 0, 0)));
        due("no use", x.span(0), 0);
        put(x, 23, at(USE, 0));
        due("all but b", x.span(0), (1 << 24) - 2);
        put(x, 22, at(RELEASE, 0));
        due("released before", x.span(0), 0);
        LoanChecker loop = flow(filled(at(SET, 0), at(LEND, 0, 0), at(USE, 1), at(MOVE, 1, 0)));
        put(loop, 23, at(GOTO, 0));
        due("all, b with them", loop.span(0), (1 << 24) - 1);
        LoanChecker next = flow(at(LEND, 0, 0), at(USE, 0), at(SET, 0));
        due("one alone", next.span(0), set(1));
        for (int b : new int[] {LEAST, -1, 3, 24, GREATEST}) due("span of " + b, next.span(b), BAD);
    }

    private static void brokenEnds() {
        about = "Promise 16: The number of points whose loans are in conflict somewhere";
        due("no point", new LoanChecker().broken(), 0);
        LoanChecker x = twelveLoans();
        due("none", x.broken(), 0);
        put(x, 22, at(SET, 0));
        for (int p = 1; p < 22; p += 2) put(x, p, at(BRANCH, 22));
        due("eleven at one point", x.broken(), 11);
        put(x, 21, at(SET, 0));
        due("one of them at two points", x.broken(), 11);
        put(x, 23, at(STOP, 0));
        due("no use", x.broken(), 0);
        LoanChecker whole = flow(filled(at(SET, 0), at(LEND, 0, 0)));
        put(whole, 23, at(USE, 0));
        due("one at 22 points", whole.broken(), 1);
        LoanChecker late = flow(filled(at(READ, 1), at(SET, 0), at(USE, 0)));
        put(late, 22, at(LEND, 0, 0));
        put(late, 23, at(GOTO, 0));
        due("the greatest point, at the least one alone", late.broken(), 1);
    }

    private static void shownNone() {
        about = "Promise 17: NONE if it is not";
        LoanChecker x = flow(at(SET, 0), at(SHARE, 0, 0), at(READ, 0), at(SET, 0), at(USE, 0));
        due("b makes no loan", x.shown(0, 3), NONE);
        due("p only reads, the loan is shared", x.shown(1, 2), NONE);
        due("p is before b", x.shown(1, 0), NONE);
        due("p is b", x.shown(1, 1), NONE);
        due("p is the use", x.shown(1, 4), NONE);
        due("it is", x.shown(1, 3), 5);
        for (int bad : new int[] {LEAST, -1, 5, 24, GREATEST}) {
            due("b " + bad, x.shown(bad, 3), BAD);
            due("p " + bad, x.shown(1, bad), BAD);
            due("p " + bad + ", b makes no loan", x.shown(0, bad), BAD);
            due("both " + bad, x.shown(bad, bad), BAD);
        }
    }

    private static void shownLeast() {
        about = "Promise 17: The least number of points of a path (up to the use, and with it)";
        due("three points", flow(at(SHARE, 0, 0), at(SET, 0), at(USE, 0), at(USE, 0)).shown(0, 1), 3);
        LoanChecker whole = flow(filled(at(SET, 1), at(LEND, 0, 0), at(SET, 0)));
        due("no use", whole.shown(0, 1), NONE);
        put(whole, 23, at(USE, 0));
        due("24 points", whole.shown(0, 1), 24);
        put(whole, 2, at(BRANCH, 23));
        due("cut short", whole.shown(0, 1), 4);
        put(whole, 2, at(GOTO, 22));
        put(whole, 22, at(BRANCH, 24));
        due("a branch to no point cuts nothing", whole.shown(0, 1), 5);
    }

    private static void shownOfEachReference() {
        about = "Promise 17: whichever reference holds the loan";
        for (int r = 0; r <= 3; r++) {
            for (int last = 0; last <= 3; last++) {
                LoanChecker x = flow(at(LEND, r, 0), at(SET, 0), at(SET, 1), at(MOVE, last, r), at(SET, 2), at(USE, last));
                due("made for " + r + ", used by " + last, x.shown(0, 1), 6);
                put(x, 3, at(COPY, last, r));
                due("made for " + r + ", copied to " + last, x.shown(0, 1), 6);
            }
        }
    }

    private static void shownRoundTheLoop() {
        about = "Promise 17: a path that comes to points again";
        LoanChecker x = flow(filled(at(SET, 1), at(LEND, 0, 0), at(USE, 3), at(MOVE, 3, 2), at(MOVE, 2, 1), at(MOVE, 1, 0)));
        put(x, 23, at(GOTO, 0));
        due("handed on in each round", x.shown(0, 0), 3 * 24 + 2);
        LoanChecker late = flow(filled(at(READ, 1), at(SET, 0), at(USE, 0)));
        put(late, 22, at(LEND, 0, 0));
        put(late, 23, at(GOTO, 0));
        due("b behind p and the use", late.shown(22, 0), 26);
        LoanChecker skipped = flow(at(BRANCH, 3), at(LEND, 0, 0), at(GOTO, 0), at(SET, 0), at(USE, 0));
        due("the begin comes twice", skipped.shown(1, 3), 6);
    }

    private static void wantedWhateverIsHeld() {
        about = "Promise 18: what r holds at p does not matter";
        LoanChecker x = flow(at(SET, 0), at(USE, 0));
        due("it holds nothing", x.wanted(0, 0), true);
        LoanChecker held = flow(at(SHARE, 0, 0), at(SET, 0), at(USE, 0));
        due("it holds something", held.wanted(1, 0), true);
        due("it is not wanted where it is made", held.wanted(0, 0), false);
    }

    private static void wantedOfThisReferenceAlone() {
        about = "Promise 18: (what another reference holds of it at p does not count)";
        LoanChecker x = flow(at(SHARE, 0, 0), at(COPY, 1, 0), at(SET, 1), at(USE, 1));
        due("the other is used", x.wanted(2, 1), true);
        due("this one is not", x.wanted(2, 0), false);
        due("before it is copied it is", x.wanted(1, 0), true);
        due("the one copied to is not, before", x.wanted(1, 1), false);
    }

    private static void wantedEndsAndCarriers() {
        about = "Promise 18: share, lend and release of a reference that holds it end that, move and copy carry it on";
        for (int kind : new int[] {SHARE, LEND, RELEASE}) {
            due("of r, kind " + kind, flow(at(kind, 0, 0), at(USE, 0)).wanted(0, 0), false);
            due("of another, kind " + kind, flow(at(kind, 1, 0), at(USE, 0)).wanted(0, 0), true);
            LoanChecker carried = flow(at(COPY, 1, 0), at(kind, 0, 0), at(USE, 1));
            due("of r when another has it too, kind " + kind, carried.wanted(0, 0), true);
        }
        for (int kind : new int[] {MOVE, COPY}) {
            due("carried, kind " + kind, flow(at(kind, 3, 0), at(USE, 3)).wanted(0, 0), true);
            due("kept, kind " + kind, flow(at(kind, 3, 0), at(USE, 0)).wanted(0, 0), kind == COPY);
            due("overwritten, kind " + kind, flow(at(kind, 3, 0), at(USE, 3)).wanted(0, 3), false);
            due("overwritten, the one passed on is used, kind " + kind, flow(at(kind, 3, 1), at(USE, 0)).wanted(0, 3), false);
            due("not concerned, kind " + kind, flow(at(kind, 3, 0), at(USE, 1)).wanted(0, 1), true);
            due("to itself, kind " + kind, flow(at(kind, 3, 3), at(USE, 3)).wanted(0, 3), true);
        }
    }

    private static void spanUseAtPItself() {
        about = "Promise 18: span: the use may be p itself, done there";
        LoanChecker x = flow(at(LEND, 2, 0), at(SET, 1), at(USE, 2), at(USE, 1), at(USE, 2), at(SET, 1));
        due("up to the last use and with it", x.span(0), set(1, 2, 3, 4));
        put(x, 4, at(RELEASE, 2));
        due("up to the first", x.span(0), set(1, 2));
    }
}
