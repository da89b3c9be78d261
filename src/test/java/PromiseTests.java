/** Each promise of the document by hand: ordinary inputs, the edges it names, and wrong inputs. */
public final class PromiseTests extends Checks {
    private static final int[] EXTREMES = {-1, 4, 12, 24, 25, 32, 1 << 24, GREATEST, LEAST};

    public static void main(String[] args) {
        newObject();
        point();
        change();
        drop();
        points();
        reached();
        holds();
        free();
        wanted();
        conflicts();
        conflictsOfThisVeryLoan();
        unset();
        idle();
        faults();
        firstFault();
        span();
        broken();
        shown();
        orderAndLimits();
        outOfRange();
        end("all promises hold");
    }

    private static void newObject() {
        about = "promise 1";
        LoanChecker x = new LoanChecker();
        due("points of a new one", x.points(), 0);
        due("reached of a new one", x.reached(0), false);
        due("drop of a new one", x.drop(), NONE);
        due("faults of a new one", x.faults(), 0);
        due("firstFault of a new one", x.firstFault(), NONE);
        due("broken of a new one", x.broken(), 0);
        due("change of a new one", x.change(0, STOP, 0, 0), BAD);
        LoanChecker other = flow(at(SET, 0));
        due("points of another object", new LoanChecker().points(), 0);
        due("points of the first", other.points(), 1);
    }

    private static void point() {
        about = "promise 2";
        LoanChecker x = new LoanChecker();
        for (int kind : new int[] {-1, 12, GREATEST, LEAST}) due("kind " + kind, x.point(kind, 0, 0), BAD);
        for (int kind = SET; kind <= RELEASE; kind++) {
            due("x too great, kind " + kind, x.point(kind, 4, 0), BAD);
            due("x too small, kind " + kind, x.point(kind, -1, 0), BAD);
        }
        for (int kind = SHARE; kind <= COPY; kind++) {
            due("y too great, kind " + kind, x.point(kind, 0, 4), BAD);
            due("y too small, kind " + kind, x.point(kind, 0, -1), BAD);
        }
        for (int kind = GOTO; kind <= BRANCH; kind++) {
            due("k too great", x.point(kind, 25, 0), BAD);
            due("k too small", x.point(kind, -1, 0), BAD);
        }
        due("points after refused ones", x.points(), 0);
        int number = 0;
        for (int kind : new int[] {SET, READ, CONSUME, USE, RELEASE}) {
            due("y does not matter", x.point(kind, 3, LEAST), number++);
            due("x least", x.point(kind, 0, 99), number++);
        }
        for (int kind = SHARE; kind <= COPY; kind++) due("both greatest", x.point(kind, 3, 3), number++);
        due("goto 24", x.point(GOTO, 24, -7), number++);
        due("branch 0", x.point(BRANCH, 0, 77), number++);
        due("stop", x.point(STOP, GREATEST, LEAST), number++);
        while (number < 24) due("up to 24", x.point(STOP, 0, 0), number++);
        due("the 25th", x.point(STOP, 0, 0), FULL);
        due("a wrong one when full", x.point(12, 0, 0), BAD);
        due("a wrong x when full", x.point(SET, 4, 0), BAD);
        due("a wrong y when full", x.point(LEND, 0, 4), BAD);
        due("points when full", x.points(), 24);
    }

    private static void change() {
        about = "promise 3";
        LoanChecker x = flow(at(SET, 0), at(LEND, 0, 0), at(USE, 0));
        due("a point that is not there", x.change(3, SET, 0, 0), BAD);
        due("a point below 0", x.change(-1, SET, 0, 0), BAD);
        due("a wrong kind", x.change(1, 12, 0, 0), BAD);
        due("a wrong x", x.change(1, SET, 4, 0), BAD);
        due("a wrong y", x.change(1, SHARE, 0, 4), BAD);
        due("nothing was changed", x.holds(2, 0), set(1));
        due("the kind it had", x.change(1, SHARE, 1, 0), LEND);
        due("it holds for the other", x.holds(2, 1), set(1));
        due("and not for the former", x.holds(2, 0), 0);
        due("the kind it had then", x.change(1, STOP, 99, 99), SHARE);
        due("behind a stop", x.reached(2), false);
        due("back again", x.change(1, LEND, 0, 0), STOP);
        due("reached again", x.reached(2), true);
        due("the number stays", x.points(), 3);
        LoanChecker full = new LoanChecker();
        for (int i = 0; i < 24; i++) full.point(STOP, 0, 0);
        due("change when full", full.change(23, USE, 0, 0), STOP);
    }

    private static void drop() {
        about = "promise 4";
        LoanChecker x = flow(at(BRANCH, 2), at(SHARE, 0, 0), at(USE, 0));
        due("idle before", x.idle(2), true);
        due("drop", x.drop(), 2);
        due("it is gone", x.idle(2), false);
        due("the branch leads nowhere, but the next is reached", x.reached(1), true);
        due("put back another", x.point(SET, 0, 0), 2);
        due("drop", x.drop(), 2);
        due("drop", x.drop(), 1);
        due("drop", x.drop(), 0);
        due("drop with none left", x.drop(), NONE);
        due("points", x.points(), 0);
        due("a new begin", x.point(STOP, 0, 0), 0);
        LoanChecker full = new LoanChecker();
        for (int i = 0; i < 24; i++) full.point(STOP, 0, 0);
        due("drop when full", full.drop(), 23);
        due("room again", full.point(STOP, 0, 0), 23);
    }

    private static void points() {
        about = "promise 5";
        LoanChecker x = new LoanChecker();
        for (int i = 0; i < 24; i++) {
            due("points", x.points(), i);
            x.point(READ, 0, 0);
        }
        x.point(READ, 0, 0);
        due("points", x.points(), 24);
        x.drop();
        due("points", x.points(), 23);
    }

    private static void reached() {
        about = "promise 6";
        LoanChecker x = flow(at(BRANCH, 3), at(GOTO, 5), at(USE, 0), at(STOP, 0), at(USE, 0), at(GOTO, 5), at(USE, 0));
        boolean[] want = {true, true, false, true, false, true, false};
        for (int p = 0; p < want.length; p++) due("reached " + p, x.reached(p), want[p]);
        LoanChecker back = flow(at(GOTO, 2), at(STOP, 0), at(GOTO, 1));
        due("by a goto back", back.reached(1), true);
        LoanChecker away = flow(at(GOTO, 24), at(SET, 0));
        due("a goto to no point", away.reached(1), false);
        LoanChecker later = flow(at(GOTO, 2), at(SET, 0));
        due("a goto to a point that is not there yet", later.reached(2), false);
        later.point(GOTO, 1, 0);
        due("and that comes", later.reached(1), true);
        due("not there", x.reached(7), false);
        due("below 0", x.reached(-1), false);
    }

    private static void holds() {
        about = "promise 7";
        LoanChecker x = flow(at(SHARE, 0, 0), at(LEND, 1, 1), at(MOVE, 2, 0), at(COPY, 3, 1), at(RELEASE, 1), at(MOVE, 3, 0), at(STOP, 0));
        due("before it is done", x.holds(0, 0), 0);
        due("behind share", x.holds(1, 0), set(0));
        due("behind lend", x.holds(2, 1), set(1));
        due("moved", x.holds(3, 2), set(0));
        due("moved away", x.holds(3, 0), 0);
        due("copied", x.holds(4, 3), set(1));
        due("copied from", x.holds(4, 1), set(1));
        due("released", x.holds(5, 1), 0);
        due("a copy stays", x.holds(5, 3), set(1));
        due("a move of nothing", x.holds(6, 3), 0);
        LoanChecker same = flow(at(SHARE, 1, 0), at(MOVE, 1, 1), at(COPY, 1, 1), at(STOP, 0));
        due("move to itself", same.holds(2, 1), set(0));
        due("copy to itself", same.holds(3, 1), set(0));
        LoanChecker fork = flow(at(BRANCH, 3), at(SHARE, 0, 0), at(GOTO, 4), at(LEND, 0, 1), at(COPY, 1, 0), at(STOP, 0), at(SHARE, 2, 2), at(STOP, 0));
        due("of two ways", fork.holds(4, 0), set(1, 3));
        due("copied of two ways", fork.holds(5, 1), set(1, 3));
        due("behind one not reached", fork.holds(7, 2), 0);
        LoanChecker loop = flow(at(SHARE, 0, 0), at(MOVE, 1, 0), at(BRANCH, 0), at(STOP, 0));
        due("round a loop", loop.holds(0, 1), set(0));
        due("round a loop, moved away", loop.holds(0, 0), 0);
        LoanChecker last = new LoanChecker();
        for (int i = 0; i < 22; i++) last.point(SET, 0, 0);
        last.point(SHARE, 3, 3);
        last.point(GOTO, 0, 0);
        due("the greatest that can be held", last.holds(0, 3), set(22));
        last.change(23, SHARE, 3, 3);
        due("the last point's loan goes nowhere", last.holds(0, 3), 0);
    }

    private static void free() {
        about = "promise 8";
        LoanChecker x = flow(at(SHARE, 0, 0), at(BRANCH, 3), at(RELEASE, 0), at(MOVE, 1, 0), at(COPY, 2, 1), at(COPY, 1, 3), at(STOP, 0), at(STOP, 0));
        for (int r = 0; r < 4; r++) due("at the begin", x.free(0, r), true);
        due("behind share", x.free(1, 0), false);
        due("on one way", x.free(3, 0), true);
        due("moved of one way", x.free(4, 1), true);
        due("moved away", x.free(4, 0), true);
        due("copied of one way", x.free(5, 2), true);
        due("a copy of nothing", x.free(6, 1), true);
        due("not reached", x.free(7, 3), false);
        LoanChecker sure = flow(at(LEND, 0, 0), at(COPY, 1, 0), at(MOVE, 0, 0), at(USE, 0), at(STOP, 0));
        due("copied", sure.free(2, 1), false);
        due("copied from", sure.free(2, 0), false);
        due("moved to itself", sure.free(3, 0), false);
        due("used", sure.free(4, 0), false);
        due("begun with the loop's loan", flow(at(SHARE, 0, 0), at(GOTO, 0)).free(0, 0), true);
    }

    private static void wanted() {
        about = "promise 9";
        LoanChecker x = flow(at(SET, 0), at(MOVE, 1, 0), at(COPY, 2, 1), at(RELEASE, 1), at(USE, 2), at(STOP, 0), at(USE, 3), at(USE, 0));
        due("by move and copy", x.wanted(0, 0), true);
        due("overwritten by move", x.wanted(1, 1), false);
        due("by copy", x.wanted(2, 1), true);
        due("overwritten by copy", x.wanted(2, 2), false);
        due("released", x.wanted(3, 1), false);
        due("a copy of it", x.wanted(3, 2), true);
        due("p itself", x.wanted(4, 2), true);
        due("another than the one used", x.wanted(4, 0), false);
        due("behind the use", x.wanted(5, 2), false);
        due("no point reached, though it uses", x.wanted(6, 3), false);
        due("behind a stop", x.wanted(0, 3), false);
        LoanChecker loop = flow(at(USE, 0), at(BRANCH, 4), at(SHARE, 0, 0), at(LEND, 1, 0), at(BRANCH, 0), at(STOP, 0));
        due("round a loop", loop.wanted(4, 0), true);
        due("ended by share", loop.wanted(2, 0), false);
        due("ended by lend", loop.wanted(3, 1), false);
        due("on one way", loop.wanted(1, 0), true);
        LoanChecker same = flow(at(MOVE, 0, 0), at(COPY, 0, 0), at(USE, 0));
        due("moved and copied to itself", same.wanted(0, 0), true);
    }

    private static void conflicts() {
        about = "promise 10";
        int[] touching = {SET, READ, CONSUME};
        boolean[] sharedBreaks = {true, false, true};
        for (int i = 0; i < touching.length; i++) {
            LoanChecker shared = flow(at(SHARE, 0, 1), at(touching[i], 1), at(USE, 0));
            due("shared, kind " + touching[i], shared.conflicts(1), sharedBreaks[i] ? set(0) : 0);
            LoanChecker single = flow(at(LEND, 0, 1), at(touching[i], 1), at(USE, 0));
            due("single, kind " + touching[i], single.conflicts(1), set(0));
            LoanChecker other = flow(at(LEND, 0, 1), at(touching[i], 2), at(USE, 0));
            due("another owner, kind " + touching[i], other.conflicts(1), 0);
        }
        due("shared, lend", flow(at(SHARE, 0, 1), at(LEND, 2, 1), at(USE, 0)).conflicts(1), set(0));
        due("shared, share", flow(at(SHARE, 0, 1), at(SHARE, 2, 1), at(USE, 0)).conflicts(1), 0);
        due("single, lend", flow(at(LEND, 0, 1), at(LEND, 2, 1), at(USE, 0)).conflicts(1), set(0));
        due("single, share", flow(at(LEND, 0, 1), at(SHARE, 2, 1), at(USE, 0)).conflicts(1), set(0));
        due("the reference's number is no owner", flow(at(LEND, 0, 1), at(LEND, 1, 2), at(USE, 0)).conflicts(1), 0);
        due("a use is none", flow(at(LEND, 0, 0), at(USE, 0), at(USE, 0)).conflicts(1), 0);
        due("a branch is none", flow(at(LEND, 0, 0), at(BRANCH, 0), at(USE, 0)).conflicts(1), 0);
        due("no use behind", flow(at(LEND, 0, 0), at(USE, 0), at(SET, 0)).conflicts(2), 0);
        due("p ends it", flow(at(LEND, 0, 0), at(LEND, 0, 0), at(USE, 0)).conflicts(1), 0);
        due("two of two ways", flow(at(BRANCH, 3), at(SHARE, 0, 0), at(GOTO, 4), at(LEND, 0, 0), at(SET, 0), at(USE, 0)).conflicts(4), set(1, 3));
        due("two at once", flow(at(SHARE, 0, 0), at(SHARE, 1, 0), at(SET, 0), at(USE, 0), at(USE, 1)).conflicts(2), set(0, 1));
        due("not reached", flow(at(GOTO, 3), at(LEND, 0, 0), at(SET, 0), at(USE, 0)).conflicts(2), 0);
    }

    private static void conflictsOfThisVeryLoan() {
        about = "promise 10";
        LoanChecker renewed = flow(at(SHARE, 0, 0), at(USE, 0), at(SET, 0), at(BRANCH, 0), at(STOP, 0));
        due("made anew in each round", renewed.conflicts(2), 0);
        LoanChecker kept = flow(at(USE, 1), at(LEND, 0, 0), at(MOVE, 1, 0), at(GOTO, 0));
        due("b itself, overwritten behind by the move", kept.conflicts(1), 0);
        LoanChecker self = flow(at(LEND, 0, 0), at(USE, 1), at(MOVE, 1, 0), at(GOTO, 0));
        due("b itself, used before the move", self.conflicts(0), set(0));
        LoanChecker sharedSelf = flow(at(SHARE, 0, 0), at(USE, 1), at(MOVE, 1, 0), at(GOTO, 0));
        due("b itself, shared", sharedSelf.conflicts(0), 0);
        LoanChecker chain = flow(at(LEND, 0, 3), at(COPY, 1, 0), at(MOVE, 2, 1), at(CONSUME, 3), at(RELEASE, 0), at(COPY, 3, 2), at(USE, 3));
        due("passed on before and behind", chain.conflicts(3), set(0));
        chain.change(5, RELEASE, 2, 0);
        due("not passed on", chain.conflicts(3), 0);
        LoanChecker oneWay = flow(at(BRANCH, 3), at(LEND, 0, 0), at(GOTO, 4), at(SET, 0), at(USE, 0));
        due("p and b on two ways", oneWay.conflicts(3), 0);
    }

    private static void unset() {
        about = "promise 11";
        for (int kind : new int[] {READ, CONSUME}) due("empty, kind " + kind, flow(at(kind, 2)).unset(0), true);
        for (int kind : new int[] {SHARE, LEND}) {
            due("empty, kind " + kind, flow(at(kind, 1, 2)).unset(0), true);
            due("full, kind " + kind, flow(at(SET, 2), at(kind, 1, 2)).unset(1), false);
            due("another full, kind " + kind, flow(at(SET, 1), at(kind, 1, 2)).unset(1), true);
        }
        due("set", flow(at(SET, 0)).unset(0), false);
        for (int kind : new int[] {USE, RELEASE, GOTO, BRANCH, STOP}) due("kind " + kind, flow(at(kind, 0)).unset(0), false);
        for (int kind : new int[] {MOVE, COPY}) due("kind " + kind, flow(at(kind, 0, 1)).unset(0), false);
        LoanChecker x = flow(at(SET, 3), at(READ, 3), at(LEND, 0, 3), at(CONSUME, 3), at(READ, 3), at(SET, 3), at(READ, 3));
        boolean[] want = {false, false, false, false, true, false, false};
        for (int p = 0; p < want.length; p++) due("unset " + p, x.unset(p), want[p]);
        due("on one way", flow(at(BRANCH, 2), at(SET, 0), at(READ, 0)).unset(2), true);
        due("on both", flow(at(SET, 0), at(BRANCH, 3), at(SET, 0), at(READ, 0)).unset(3), false);
        due("round a loop", flow(at(SET, 0), at(CONSUME, 0), at(BRANCH, 1)).unset(1), true);
        due("not reached", flow(at(STOP, 0), at(READ, 0)).unset(1), false);
    }

    private static void idle() {
        about = "promise 12";
        due("nothing held", flow(at(USE, 2)).idle(0), true);
        due("held", flow(at(SHARE, 2, 0), at(USE, 2)).idle(1), false);
        due("another held", flow(at(SHARE, 1, 2), at(USE, 2)).idle(1), true);
        due("moved away", flow(at(SHARE, 1, 0), at(MOVE, 2, 1), at(USE, 1)).idle(2), true);
        due("released", flow(at(SHARE, 1, 0), at(RELEASE, 1), at(USE, 1)).idle(2), true);
        due("on one way", flow(at(BRANCH, 2), at(LEND, 0, 0), at(USE, 0)).idle(2), true);
        due("a copy of nothing", flow(at(LEND, 0, 0), at(COPY, 0, 1), at(USE, 0)).idle(2), true);
        due("no use", flow(at(RELEASE, 0)).idle(0), false);
        due("not reached", flow(at(STOP, 0), at(USE, 0)).idle(1), false);
    }

    private static LoanChecker threeFaults() {
        return flow(at(SET, 0), at(LEND, 0, 0), at(READ, 0), at(READ, 1), at(USE, 0), at(USE, 1), at(STOP, 0), at(USE, 2));
    }

    private static void faults() {
        about = "promise 13";
        due("one of each", threeFaults().faults(), 3);
        due("none", flow(at(SET, 0), at(LEND, 0, 0), at(USE, 0)).faults(), 0);
        LoanChecker both = flow(at(LEND, 0, 0), at(READ, 0), at(USE, 0));
        due("unset and in conflict count once", both.faults(), 2);
        LoanChecker many = new LoanChecker();
        for (int i = 0; i < 24; i++) many.point(READ, 0, 0);
        due("all", many.faults(), 24);
    }

    private static void firstFault() {
        about = "promise 14";
        LoanChecker x = threeFaults();
        due("a conflict", x.firstFault(), 2);
        x.change(2, SET, 1, 0);
        due("an idle one", x.firstFault(), 5);
        x.change(2, STOP, 0, 0);
        due("none", x.firstFault(), NONE);
        x.change(0, READ, 0, 0);
        due("an unset one", x.firstFault(), 0);
    }

    private static void span() {
        about = "promise 15";
        LoanChecker x = flow(at(SET, 0), at(SHARE, 0, 0), at(COPY, 1, 0), at(RELEASE, 0), at(READ, 1), at(USE, 1), at(STOP, 0));
        due("up to the use and with it", x.span(1), set(2, 3, 4, 5));
        due("no loan made", x.span(0), 0);
        due("no use", flow(at(SHARE, 0, 0), at(STOP, 0)).span(0), 0);
        due("a use of another", flow(at(SHARE, 0, 0), at(USE, 1)).span(0), 0);
        due("a single one", flow(at(LEND, 3, 0), at(USE, 3)).span(0), set(1));
        due("not reached", flow(at(STOP, 0), at(SHARE, 0, 0), at(USE, 0)).span(1), 0);
        LoanChecker loop = flow(at(SHARE, 0, 0), at(USE, 1), at(MOVE, 1, 0), at(BRANCH, 0), at(STOP, 0));
        due("round a loop, b with it", loop.span(0), set(0, 1, 2, 3));
        LoanChecker again = flow(at(SHARE, 0, 0), at(USE, 0), at(BRANCH, 0), at(STOP, 0));
        due("b makes a new one, the former ends", again.span(0), set(1));
        LoanChecker fork = flow(at(LEND, 0, 0), at(BRANCH, 4), at(SET, 1), at(STOP, 0), at(SET, 2), at(USE, 0));
        due("only the way that uses it", fork.span(0), set(1, 4, 5));
        due("not there", fork.span(6), BAD);
    }

    private static void broken() {
        about = "promise 16";
        due("one, in two places", flow(at(LEND, 0, 0), at(READ, 0), at(SET, 0), at(USE, 0)).broken(), 1);
        due("two, in one place", flow(at(SHARE, 0, 0), at(SHARE, 1, 0), at(SET, 0), at(USE, 0), at(USE, 1)).broken(), 2);
        due("two, in two places", flow(at(SHARE, 0, 0), at(SHARE, 1, 1), at(SET, 0), at(SET, 1), at(USE, 0), at(USE, 1)).broken(), 2);
        due("unset and idle do not count", flow(at(READ, 0), at(USE, 0)).broken(), 0);
    }

    private static void shown() {
        about = "promise 17";
        LoanChecker x = flow(at(SET, 0), at(LEND, 0, 0), at(SET, 0), at(READ, 1), at(USE, 0), at(USE, 0));
        due("up to the first use", x.shown(1, 2), 5);
        due("not in conflict", x.shown(1, 3), NONE);
        due("b makes no loan", x.shown(0, 2), NONE);
        due("b is no point", x.shown(6, 2), BAD);
        due("p is no point", x.shown(1, 6), BAD);
        LoanChecker cut = flow(at(BRANCH, 3), at(SET, 1), at(SET, 2), at(LEND, 0, 0), at(BRANCH, 7), at(SET, 1), at(SET, 2), at(SET, 0), at(USE, 0));
        due("the shorter ways", cut.shown(3, 7), 5);
        LoanChecker round = flow(at(LEND, 0, 0), at(USE, 1), at(MOVE, 1, 0), at(GOTO, 0));
        due("b itself, in the next round", round.shown(0, 0), 6);
        LoanChecker twice = flow(at(LEND, 0, 0), at(BRANCH, 4), at(SET, 0), at(GOTO, 1), at(USE, 0), at(STOP, 0));
        due("points count as often as they come", twice.shown(0, 2), 6);
        LoanChecker early = flow(at(SHARE, 0, 0), at(USE, 0), at(SET, 0), at(BRANCH, 1), at(USE, 0));
        due("a use before p does not count", early.shown(0, 2), 5);
        LoanChecker relay = flow(at(LEND, 0, 0), at(COPY, 1, 0), at(SET, 0), at(RELEASE, 0), at(USE, 0), at(USE, 1));
        due("by the copy", relay.shown(0, 2), 6);
    }

    private static void orderAndLimits() {
        about = "promise 18";
        LoanChecker held = flow(at(RELEASE, 0), at(USE, 0), at(USE, 1), at(STOP, 0));
        due("what r holds at p does not matter", held.wanted(1, 0), true);
        LoanChecker other = flow(at(SHARE, 0, 0), at(COPY, 1, 0), at(RELEASE, 0), at(USE, 1));
        due("what another holds of it does not count", other.wanted(2, 0), false);
        due("but the other does for itself", other.wanted(2, 1), true);
        for (int kind : new int[] {SHARE, LEND}) {
            LoanChecker ended = flow(at(STOP, 0), at(kind, 0, 0), at(USE, 0));
            ended.change(0, SET, 0, 0);
            due("ended by kind " + kind, ended.wanted(0, 0), false);
        }
        due("carried on by move", flow(at(MOVE, 1, 0), at(USE, 1)).wanted(0, 0), true);
        due("moved away", flow(at(MOVE, 1, 0), at(USE, 0)).wanted(0, 0), false);
        due("carried on by copy", flow(at(COPY, 1, 0), at(USE, 1)).wanted(0, 0), true);
        due("copied and kept", flow(at(COPY, 1, 0), at(USE, 0)).wanted(0, 0), true);
        due("span: the use may be p itself", flow(at(LEND, 0, 0), at(USE, 0)).span(0), set(1));
        LoanChecker full = new LoanChecker();
        full.point(LEND, 0, 0);
        for (int i = 1; i < 22; i++) full.point(MOVE, i & 3, (i - 1) & 3);
        full.point(SET, 0, 0);
        full.point(USE, 1, 0);
        due("24 points: span", full.span(0), (1 << 24) - 2);
        due("24 points: conflicts", full.conflicts(22), set(0));
        due("24 points: shown", full.shown(0, 22), 24);
    }

    private static void outOfRange() {
        about = "arguments out of range";
        LoanChecker x = threeFaults();
        for (int bad : EXTREMES) {
            if (bad >= 0 && bad < 8) continue;
            due("reached", x.reached(bad), false);
            due("holds", x.holds(bad, 0), BAD);
            due("free", x.free(bad, 0), false);
            due("wanted", x.wanted(bad, 0), false);
            due("conflicts", x.conflicts(bad), BAD);
            due("unset", x.unset(bad), false);
            due("idle", x.idle(bad), false);
            due("span", x.span(bad), BAD);
            due("shown", x.shown(bad, 0), BAD);
            due("shown", x.shown(0, bad), BAD);
            due("change", x.change(bad, 12, 9, 9), BAD);
        }
        for (int bad : EXTREMES) {
            due("holds, r " + bad, x.holds(0, bad), BAD);
            due("free, r " + bad, x.free(0, bad), false);
            due("wanted, r " + bad, x.wanted(0, bad), false);
        }
        due("nothing was changed", x.points() * 100 + x.faults(), 803);
    }
}
