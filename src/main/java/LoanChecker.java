public final class LoanChecker {
    public static final int BAD_ARG = -1;
    public static final int FULL = -2;
    public static final int NONE = -3;

    private static final int SET = 0;
    private static final int READ = 1;
    private static final int CONSUME = 2;
    private static final int SHARE = 3;
    private static final int LEND = 4;
    private static final int MOVE = 5;
    private static final int COPY = 6;
    private static final int USE = 7;
    private static final int RELEASE = 8;
    private static final int GOTO = 9;
    private static final int BRANCH = 10;
    private static final int STOP = 11;

    private static final int MAX_POINTS = 24;
    private static final int REFERENCES = 4;
    private static final int OWNERS = 4;
    private static final int ALL_OWNERS = 15;
    private static final int HOLDINGS = MAX_POINTS * REFERENCES;

    // A set of loans has bit b for a loan made at b, and this one, above them all, for no loan.
    private static final int NO_LOAN = 1 << MAX_POINTS;

    // Each round but the last finds at least one of the 24 * (4 * 25 + 4 + 1) things to be
    // found forward (24 * 4 backward), so that this many rounds are never used up.
    private static final int MAX_ROUNDS = 10000;

    // The stages of the search for a shortest path: the loan is not made yet; reference r holds
    // it (HELD + r); reference r holds it and the other point has been done since (CROSSED + r).
    private static final int UNMADE = 0;
    private static final int HELD = 1;
    private static final int CROSSED = HELD + REFERENCES;
    private static final int STAGES = CROSSED + REFERENCES;
    private static final int STATES = MAX_POINTS * STAGES;

    private int count = 0;
    private final int[] kinds = new int[MAX_POINTS];
    private final int[] firsts = new int[MAX_POINTS];
    private final int[] seconds = new int[MAX_POINTS];

    // What analyse finds, for the moment before each point is done. A reference is live at a
    // point if a loan that it alone held there could still come to a use.
    private final boolean[] seen = new boolean[MAX_POINTS];
    private final int[] loans = new int[HOLDINGS];
    private final int[] emptyOwners = new int[MAX_POINTS];
    private final int[] liveRefs = new int[MAX_POINTS];

    private final int[] queue = new int[STATES];
    private final int[] lengths = new int[STATES];
    private int queued = 0;

    public LoanChecker() {
    }

    public int point(int kind, int x, int y) {
        if (!isAction(kind, x, y)) {
            return BAD_ARG;
        }
        if (count >= MAX_POINTS) {
            return FULL;
        }
        int p = count;
        count++;
        write(p, kind, x, y);
        analyse();
        return p;
    }

    public int change(int p, int kind, int x, int y) {
        if (!isPoint(p) || !isAction(kind, x, y)) {
            return BAD_ARG;
        }
        int former = kinds[p];
        write(p, kind, x, y);
        analyse();
        return former;
    }

    public int drop() {
        if (count <= 0) {
            return NONE;
        }
        count--;
        analyse();
        return count;
    }

    public int points() {
        return count;
    }

    public boolean reached(int p) {
        return isPoint(p) && seen[p];
    }

    public int holds(int p, int r) {
        if (!isPoint(p) || !isReference(r)) {
            return BAD_ARG;
        }
        return loans[p * REFERENCES + r] & ~NO_LOAN;
    }

    public boolean free(int p, int r) {
        return isPoint(p) && isReference(r) && mayBeFree(p, r);
    }

    public boolean wanted(int p, int r) {
        return isPoint(p) && isReference(r) && seen[p] && isLive(p, r);
    }

    public int conflicts(int p) {
        if (!isPoint(p)) {
            return BAD_ARG;
        }
        return conflictSet(p);
    }

    public boolean unset(int p) {
        return isPoint(p) && isUnset(p);
    }

    public boolean idle(int p) {
        return isPoint(p) && isIdle(p);
    }

    public int faults() {
        int number = 0;
        for (int p = 0; p < count; p++) {
            if (isFaulty(p)) {
                number++;
            }
        }
        return number;
    }

    public int firstFault() {
        for (int p = 0; p < count; p++) {
            if (isFaulty(p)) {
                return p;
            }
        }
        return NONE;
    }

    public int span(int b) {
        if (!isPoint(b)) {
            return BAD_ARG;
        }
        int set = 0;
        for (int p = 0; p < count; p++) {
            if (isInSpan(b, p)) {
                set |= 1 << p;
            }
        }
        return set;
    }

    public int broken() {
        int somewhere = 0;
        for (int p = 0; p < count; p++) {
            somewhere |= conflictSet(p);
        }
        int number = 0;
        for (int b = 0; b < count; b++) {
            number += (somewhere >> b) & 1;
        }
        return number;
    }

    public int shown(int b, int p) {
        if (!isPoint(b) || !isPoint(p)) {
            return BAD_ARG;
        }
        if (!isInConflict(b, p)) {
            return NONE;
        }
        return shortestPath(b, p);
    }

    // ---- the points ----

    private boolean isPoint(int p) {
        return p >= 0 && p < count;
    }

    private boolean isReference(int r) {
        return r >= 0 && r < REFERENCES;
    }

    private boolean isOwner(int o) {
        return o >= 0 && o < OWNERS;
    }

    private boolean isAction(int kind, int x, int y) {
        switch (kind) {
            case SET:
            case READ:
            case CONSUME:
                return isOwner(x);
            case SHARE:
            case LEND:
                return isReference(x) && isOwner(y);
            case MOVE:
            case COPY:
                return isReference(x) && isReference(y);
            case USE:
            case RELEASE:
                return isReference(x);
            case GOTO:
            case BRANCH:
                return x >= 0 && x <= MAX_POINTS;
            case STOP:
                return true;
            default:
                return false;
        }
    }

    private void write(int p, int kind, int x, int y) {
        kinds[p] = kind;
        firsts[p] = x;
        seconds[p] = y;
    }

    private boolean makesLoan(int p) {
        return kinds[p] == SHARE || kinds[p] == LEND;
    }

    private boolean writesOwner(int p) {
        return kinds[p] == SET || kinds[p] == CONSUME || kinds[p] == LEND;
    }

    private boolean readsOwner(int p) {
        return kinds[p] == READ || kinds[p] == SHARE;
    }

    // Asked only of a point that writes or reads an owner.
    private int ownerAt(int p) {
        return kinds[p] <= CONSUME ? firsts[p] : seconds[p];
    }

    private boolean usesReference(int p, int r) {
        return kinds[p] == USE && firsts[p] == r;
    }

    private int jumpBehind(int p) {
        boolean jumps = kinds[p] == GOTO || kinds[p] == BRANCH;
        return jumps && firsts[p] < count ? firsts[p] : NONE;
    }

    private int nextBehind(int p) {
        boolean leaves = kinds[p] == GOTO || kinds[p] == STOP;
        return !leaves && p + 1 < count ? p + 1 : NONE;
    }

    // ---- what can be so at the points ----

    private void analyse() {
        clearFindings();
        if (count > 0) {
            enterBegin();
            findForward();
            findLive();
        }
    }

    private void clearFindings() {
        for (int p = 0; p < MAX_POINTS; p++) {
            seen[p] = false;
            emptyOwners[p] = 0;
            liveRefs[p] = 0;
        }
        for (int i = 0; i < HOLDINGS; i++) {
            loans[i] = 0;
        }
    }

    private void enterBegin() {
        seen[0] = true;
        emptyOwners[0] = ALL_OWNERS;
        for (int r = 0; r < REFERENCES; r++) {
            loans[r] = NO_LOAN;
        }
    }

    // What a reference holds behind a point hangs on what one reference held before it, and an
    // owner likewise on itself alone; so sets joined over all paths lose nothing.
    private void findForward() {
        boolean grown = true;
        for (int round = 0; grown && round < MAX_ROUNDS; round++) {
            grown = false;
            for (int p = 0; p < count; p++) {
                if (seen[p] && passOn(p)) {
                    grown = true;
                }
            }
        }
    }

    private boolean passOn(int p) {
        int jump = jumpBehind(p);
        int next = nextBehind(p);
        boolean grown = false;
        if (jump != NONE && passTo(p, jump)) {
            grown = true;
        }
        if (next != NONE && passTo(p, next)) {
            grown = true;
        }
        return grown;
    }

    private boolean passTo(int p, int behind) {
        boolean grown = !seen[behind];
        seen[behind] = true;
        int owners = emptyOwners[behind] | emptyAfter(p);
        if (owners != emptyOwners[behind]) {
            emptyOwners[behind] = owners;
            grown = true;
        }
        for (int r = 0; r < REFERENCES; r++) {
            int i = behind * REFERENCES + r;
            int set = loans[i] | loansAfter(p, r);
            if (set != loans[i]) {
                loans[i] = set;
                grown = true;
            }
        }
        return grown;
    }

    private int emptyAfter(int p) {
        if (kinds[p] == SET) {
            return emptyOwners[p] & ~(1 << firsts[p]);
        }
        if (kinds[p] == CONSUME) {
            return emptyOwners[p] | (1 << firsts[p]);
        }
        return emptyOwners[p];
    }

    private int loansAfter(int p, int r) {
        int kind = kinds[p];
        boolean isFirst = firsts[p] == r;
        if ((kind == SHARE || kind == LEND) && isFirst) {
            return 1 << p;
        }
        if (kind == RELEASE && isFirst) {
            return NO_LOAN;
        }
        if ((kind == MOVE || kind == COPY) && isFirst) {
            return loans[p * REFERENCES + seconds[p]];
        }
        if (kind == MOVE && seconds[p] == r) {
            return NO_LOAN;
        }
        return loans[p * REFERENCES + r];
    }

    private void findLive() {
        boolean grown = true;
        for (int round = 0; grown && round < MAX_ROUNDS; round++) {
            grown = false;
            for (int p = count - 1; p >= 0; p--) {
                int refs = liveBefore(p);
                if (refs != liveRefs[p]) {
                    liveRefs[p] = refs;
                    grown = true;
                }
            }
        }
    }

    private int liveBefore(int p) {
        int jump = jumpBehind(p);
        int next = nextBehind(p);
        int liveBehind = 0;
        if (jump != NONE) {
            liveBehind |= liveRefs[jump];
        }
        if (next != NONE) {
            liveBehind |= liveRefs[next];
        }
        int refs = 0;
        for (int r = 0; r < REFERENCES; r++) {
            if (usesReference(p, r) || (heirs(p, r) & liveBehind) != 0) {
                refs |= 1 << r;
            }
        }
        return refs;
    }

    // The references that hold, when p has been done, the loan that r alone held before.
    private int heirs(int p, int r) {
        int kind = kinds[p];
        int own = 1 << r;
        if (kind == MOVE || kind == COPY) {
            if (seconds[p] == r) {
                int other = 1 << firsts[p];
                return kind == MOVE ? other : own | other;
            }
            return firsts[p] == r ? 0 : own;
        }
        boolean ends = kind == SHARE || kind == LEND || kind == RELEASE;
        return ends && firsts[p] == r ? 0 : own;
    }

    // ---- what is answered from it ----

    private boolean mayBeFree(int p, int r) {
        return (loans[p * REFERENCES + r] & NO_LOAN) != 0;
    }

    private boolean isLive(int p, int r) {
        return ((liveRefs[p] >> r) & 1) != 0;
    }

    private boolean isUnset(int p) {
        boolean needsValue = readsOwner(p) || kinds[p] == LEND || kinds[p] == CONSUME;
        return needsValue && ((emptyOwners[p] >> ownerAt(p)) & 1) != 0;
    }

    private boolean isIdle(int p) {
        return kinds[p] == USE && mayBeFree(p, firsts[p]);
    }

    private boolean isFaulty(int p) {
        return isUnset(p) || isIdle(p) || conflictSet(p) != 0;
    }

    // A path to p with r holding a loan of b and one on from p to a use of what r alone holds
    // there make one path together, since what can come behind p does not hang on how p was reached.
    private boolean isInSpan(int b, int p) {
        for (int r = 0; r < REFERENCES; r++) {
            boolean held = ((loans[p * REFERENCES + r] >> b) & 1) != 0;
            if (held && isLive(p, r)) {
                return true;
            }
        }
        return false;
    }

    private boolean disturbs(int p, int b) {
        boolean touches = writesOwner(p) || (readsOwner(p) && kinds[b] == LEND);
        return touches && makesLoan(b) && ownerAt(p) == ownerAt(b);
    }

    // A point that writes or reads an owner is no use, so the use of the span comes behind it.
    private boolean isInConflict(int b, int p) {
        return disturbs(p, b) && isInSpan(b, p);
    }

    private int conflictSet(int p) {
        int set = 0;
        for (int b = 0; b < count; b++) {
            if (isInConflict(b, p)) {
                set |= 1 << b;
            }
        }
        return set;
    }

    // ---- the shortest path that shows a conflict ----

    private int shortestPath(int b, int p) {
        clearSearch();
        enter(0, UNMADE, 1);
        for (int i = 0; i < STATES && i < queued; i++) {
            int state = queue[i];
            int at = state / STAGES;
            int stage = state % STAGES;
            if (stage >= CROSSED && usesReference(at, stage - CROSSED)) {
                return lengths[state];
            }
            int stages = stagesAfter(at, stage, b, p);
            int length = lengths[state] + 1;
            int jump = jumpBehind(at);
            int next = nextBehind(at);
            enterAll(jump, stages, length);
            enterAll(next, stages, length);
        }
        return NONE;
    }

    private void clearSearch() {
        queued = 0;
        for (int state = 0; state < STATES; state++) {
            lengths[state] = 0;
        }
    }

    // The set of the stages in which the search can go on when the point has been done.
    private int stagesAfter(int at, int stage, int b, int p) {
        if (stage == UNMADE) {
            int made = at == b ? 1 << (HELD + firsts[b]) : 0;
            return (1 << UNMADE) | made;
        }
        boolean crossedBefore = stage >= CROSSED;
        int holder = crossedBefore ? stage - CROSSED : stage - HELD;
        int refs = heirs(at, holder);
        return refs << (crossedBefore || at == p ? CROSSED : HELD);
    }

    private void enterAll(int at, int stages, int length) {
        if (at == NONE) {
            return;
        }
        for (int stage = 0; stage < STAGES; stage++) {
            if (((stages >> stage) & 1) != 0) {
                enter(at, stage, length);
            }
        }
    }

    private void enter(int at, int stage, int length) {
        int state = at * STAGES + stage;
        if (lengths[state] == 0 && queued < STATES) {
            lengths[state] = length;
            queue[queued] = state;
            queued++;
        }
    }
}
