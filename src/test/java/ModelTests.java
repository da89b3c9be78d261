import java.util.ArrayDeque;
import java.util.ArrayList;
import java.util.HashMap;
import java.util.HashSet;
import java.util.List;
import java.util.Map;
import java.util.Set;

/**
 * Made-up flows, and every flow of up to three points, against two models that follow the
 * document's words: one walks every path of a small flow, place by place, with loans that have
 * names; the other walks all states of a path, loops and all, with the set of all references that
 * hold the loan looked at.
 */
public final class ModelTests {
    private static final int LONGEST = 11;
    private static int wrong = 0;
    private static long seed = 20261115L;

    private static int count;
    private static final int[][] flow = new int[24][];

    public static void main(String[] args) {
        everySmallFlow();
        int exact = 0;
        int shownOnes = 0;
        for (int i = 0; i < 1500 && wrong < 20; i++) {
            makeFlow(1 + pick(8), 1 + i % 2, 1 + i % 3);
            Paths paths = new Paths();
            paths.walkAll();
            if (!paths.cut) exact++;
            paths.compare();
        }
        for (int i = 0; i < 1500 && wrong < 20; i++) {
            int size = i % 2 == 0 ? 24 : 1 + pick(14);
            makeFlow(size, 1 + pick(i % 3 == 0 ? 4 : 2), i % 5 == 0 ? 2 : 4);
            shownOnes += compareStates();
            compareEmptiness();
            compareSums();
        }
        if (exact < 300 || shownOnes < 1000) {
            wrong++;
            System.out.println("the flows show too little: " + exact + " exact, " + shownOnes + " conflicts");
        }
        System.out.println(wrong == 0 ? "the models agree" : wrong + " answers differ from the models");
        if (wrong != 0) System.exit(1);
    }

    private static void due(String call, int got, int want) {
        if (got == want) return;
        wrong++;
        StringBuilder text = new StringBuilder();
        for (int p = 0; p < count; p++) text.append(" (" + flow[p][0] + " " + flow[p][1] + " " + flow[p][2] + ")");
        System.out.println("model: " + call + " answered " + got + ", due is " + want + " in" + text);
    }

    // ---- flows, the same in each run ----

    private static int pick(int bound) {
        seed = seed * 6364136223846793005L + 1442695040888963407L;
        return (int) ((seed >>> 33) % bound);
    }

    /** Few owners, many references and few ends make conflicts frequent. */
    private static void makeFlow(int size, int owners, int references) {
        int[] kinds = {0, 0, 1, 1, 2, 3, 3, 4, 4, 4, 5, 6, 6, 6, 7, 7, 7, 7, 7, 7, 8, 10, 10, 10, 10};
        count = size;
        for (int p = 0; p < size; p++) {
            int rare = pick(60);
            int kind = rare == 0 ? 11 : rare == 1 ? 9 : kinds[pick(kinds.length)];
            int first = kind >= 9 ? pick(size + 1) : kind <= 2 ? pick(owners) : pick(references);
            int second = kind <= 4 ? pick(owners) : pick(references);
            flow[p] = new int[] {kind, first, second};
        }
    }

    /** All points over one owner and two references, and all jumps that a flow of this size tells apart. */
    private static List<int[]> allPoints(int size) {
        List<int[]> all = new ArrayList<>();
        for (int kind = 0; kind <= 11; kind++) {
            int greatestX = kind <= 2 || kind == 11 ? 0 : kind <= 8 ? 1 : size;
            int greatestY = kind == 5 || kind == 6 ? 1 : 0;
            for (int x = 0; x <= greatestX; x++) {
                for (int y = 0; y <= greatestY; y++) all.add(new int[] {kind, x, y});
            }
        }
        return all;
    }

    private static void everySmallFlow() {
        for (count = 1; count <= 3; count++) {
            List<int[]> all = allPoints(count);
            int flows = 1;
            for (int p = 0; p < count; p++) flows *= all.size();
            for (int i = 0; i < flows && wrong < 20; i++) {
                int rest = i;
                for (int p = 0; p < count; p++, rest /= all.size()) flow[p] = all.get(rest % all.size());
                Paths paths = new Paths();
                paths.walkAll();
                // In so small a flow what a path can show is shown before the paths are cut.
                paths.cut = false;
                paths.compare();
                compareStates();
                compareSums();
            }
        }
    }

    /** A new object with the flow, since one object is good for 512 calls only. */
    private static LoanChecker fresh() {
        LoanChecker x = new LoanChecker();
        for (int p = 0; p < count; p++) x.point(0, 0, 0);
        // From the last on, so that each answer has to follow changes.
        for (int p = count - 1; p >= 0; p--) due("change", x.change(p, flow[p][0], flow[p][1], flow[p][2]), 0);
        return x;
    }

    private static int[] behind(int p) {
        int kind = flow[p][0];
        int jump = flow[p][1] < count ? flow[p][1] : -1;
        int next = p + 1 < count ? p + 1 : -1;
        if (kind == 9) return new int[] {jump, -1};
        if (kind == 10) return new int[] {jump, next};
        return new int[] {kind == 11 ? -1 : next, -1};
    }

    private static boolean makes(int p) {
        return flow[p][0] == 3 || flow[p][0] == 4;
    }

    private static boolean disturbs(int p, int b) {
        if (!makes(b)) return false;
        int owner = flow[b][2];
        switch (flow[p][0]) {
            case 0: case 2: return flow[p][1] == owner;
            case 4: return flow[p][2] == owner;
            case 1: return flow[p][1] == owner && flow[b][0] == 4;
            case 3: return flow[p][2] == owner && flow[b][0] == 4;
            default: return false;
        }
    }

    // ---- all paths of a small flow, up to a length ----

    private static final class Paths {
        final int[] path = new int[LONGEST];
        final int[][] heldAt = new int[LONGEST + 1][];
        final int[] emptyAt = new int[LONGEST + 1];
        boolean cut = false;
        final boolean[] reached = new boolean[24];
        final int[][] holds = new int[24][4];
        final boolean[][] free = new boolean[24][4];
        final boolean[] unset = new boolean[24];
        final int[] span = new int[24];
        final int[][] shown = new int[24][24];

        void walkAll() {
            heldAt[0] = new int[] {-1, -1, -1, -1};
            emptyAt[0] = 15;
            walk(0, 0);
        }

        /** A loan is named by the place of the path that makes it. */
        void walk(int place, int p) {
            if (place == LONGEST) {
                cut = true;
                return;
            }
            path[place] = p;
            look(place, p);
            int[] held = heldAt[place].clone();
            int x = flow[p][1];
            int y = flow[p][2];
            emptyAt[place + 1] = emptyAt[place];
            switch (flow[p][0]) {
                case 0: emptyAt[place + 1] &= ~(1 << x); break;
                case 2: emptyAt[place + 1] |= 1 << x; break;
                case 3: case 4: held[x] = place; break;
                case 5: if (x != y) { held[x] = held[y]; held[y] = -1; } break;
                case 6: held[x] = held[y]; break;
                case 8: held[x] = -1; break;
                default: break;
            }
            heldAt[place + 1] = held;
            for (int n : behind(p)) {
                if (n >= 0) walk(place + 1, n);
            }
        }

        void look(int place, int p) {
            reached[p] = true;
            for (int r = 0; r < 4; r++) {
                int loan = heldAt[place][r];
                if (loan < 0) free[p][r] = true;
                else holds[p][r] |= 1 << path[loan];
            }
            int kind = flow[p][0];
            boolean needs = kind >= 1 && kind <= 4;
            if (needs && (emptyAt[place] >> (kind <= 2 ? flow[p][1] : flow[p][2]) & 1) != 0) unset[p] = true;
            if (kind == 7) lookBack(place, heldAt[place][flow[p][1]]);
        }

        void lookBack(int place, int loan) {
            if (loan < 0) return;
            int b = path[loan];
            for (int between = loan + 1; between <= place; between++) {
                int p = path[between];
                span[b] |= 1 << p;
                boolean shorter = shown[b][p] == 0 || shown[b][p] > place + 1;
                if (between < place && disturbs(p, b) && shorter) shown[b][p] = place + 1;
            }
        }

        void compare() {
            LoanChecker x = fresh();
            for (int p = 0; p < count; p++) {
                same("reached " + p, x.reached(p) ? 1 : 0, reached[p] ? 1 : 0);
                same("unset " + p, x.unset(p) ? 1 : 0, unset[p] ? 1 : 0);
                boolean idle = flow[p][0] == 7 && free[p][flow[p][1]];
                same("idle " + p, x.idle(p) ? 1 : 0, idle ? 1 : 0);
                same("span " + p, x.span(p), span[p]);
                for (int r = 0; r < 4; r++) {
                    same("holds " + p + " " + r, x.holds(p, r), holds[p][r]);
                    same("free " + p + " " + r, x.free(p, r) ? 1 : 0, free[p][r] ? 1 : 0);
                }
                for (int b = 0; b < count; b++) compareShown(x, b, p);
            }
        }

        /** Paths that were cut may have shown more: then what they did show must be there. */
        void same(String call, int got, int want) {
            due(call, cut ? got & want : got, want);
        }

        void compareShown(LoanChecker x, int b, int p) {
            int got = x.shown(b, p);
            boolean tooLong = cut && got > LONGEST;
            due("shown " + b + " " + p, tooLong ? -3 : got, shown[b][p] == 0 ? -3 : shown[b][p]);
        }
    }

    // ---- all states, with loops ----

    private static int pass(int p, int mask) {
        int x = flow[p][1];
        int y = flow[p][2];
        boolean had = (mask >> y & 1) != 0;
        switch (flow[p][0]) {
            case 3: case 4: case 8: return mask & ~(1 << x);
            case 5: return x == y ? mask : mask & ~(1 << x) & ~(1 << y) | (had ? 1 << x : 0);
            case 6: return mask & ~(1 << x) | (had ? 1 << x : 0);
            default: return mask;
        }
    }

    private static boolean uses(int p, int mask) {
        return flow[p][0] == 7 && (mask >> flow[p][1] & 1) != 0;
    }

    /** Whether a path can go on from p, the mask's references holding the loan, to a use of it. */
    private static boolean comesToUse(int p, int mask) {
        Set<Integer> seen = new HashSet<>();
        ArrayDeque<Integer> open = new ArrayDeque<>();
        open.add(p * 16 + mask);
        seen.add(p * 16 + mask);
        while (!open.isEmpty()) {
            int state = open.poll();
            if (uses(state / 16, state % 16)) return true;
            int after = pass(state / 16, state % 16);
            for (int n : behind(state / 16)) {
                if (n >= 0 && after != 0 && seen.add(n * 16 + after)) open.add(n * 16 + after);
            }
        }
        return false;
    }

    /** Lengths of shortest paths to each state, a loan of b looked at; found[0] is that of one which uses it when p has been done. */
    private static Map<Integer, Integer> walkFrom(int b, int p, int[] found) {
        Map<Integer, Integer> lengths = new HashMap<>();
        ArrayDeque<Integer> open = new ArrayDeque<>();
        lengths.put(0, 1);
        open.add(0);
        while (!open.isEmpty()) {
            int state = open.poll();
            int at = state / 64;
            boolean made = (state & 1) != 0;
            boolean done = (state & 2) != 0;
            int mask = state / 4 % 16;
            int length = lengths.get(state);
            if (done && uses(at, mask) && found[0] == 0) found[0] = length;
            int after = pass(at, mask) * 4 + (made ? 1 : 0) + (done || made && at == p ? 2 : 0);
            boolean ended = made && after < 4;
            int begun = !made && at == b && makes(b) ? (1 << flow[b][1]) * 4 + 1 : -1;
            for (int n : behind(at)) {
                if (n >= 0 && !ended) enter(lengths, open, n * 64 + after, length + 1);
                if (n >= 0 && begun >= 0) enter(lengths, open, n * 64 + begun, length + 1);
            }
        }
        return lengths;
    }

    private static void enter(Map<Integer, Integer> lengths, ArrayDeque<Integer> open, int state, int length) {
        if (lengths.putIfAbsent(state, length) == null) open.add(state);
    }

    private static int compareStates() {
        int conflicts = 0;
        int[] conflictsAt = new int[count];
        boolean[][] wanted = new boolean[count][16];
        for (int p = 0; p < count; p++) {
            for (int mask = 1; mask < 16; mask++) wanted[p][mask] = comesToUse(p, mask);
        }
        int[][] holds = new int[count][4];
        boolean[] reached = new boolean[count];
        for (int b = 0; b < count; b++) {
            LoanChecker x = fresh();
            int span = 0;
            for (int state : walkFrom(b, -1, new int[1]).keySet()) {
                int at = state / 64;
                int mask = state / 4 % 16;
                reached[at] = true;
                for (int r = 0; r < 4; r++) if ((mask >> r & 1) != 0) holds[at][r] |= 1 << b;
                if (wanted[at][mask]) span |= 1 << at;
            }
            due("span " + b, x.span(b), span);
            for (int p = 0; p < count; p++) {
                int[] found = new int[1];
                if (disturbs(p, b)) walkFrom(b, p, found);
                due("shown " + b + " " + p, x.shown(b, p), found[0] == 0 ? -3 : found[0]);
                if (found[0] == 0) continue;
                conflictsAt[p] |= 1 << b;
                conflicts++;
            }
        }
        LoanChecker x = fresh();
        for (int p = 0; p < count; p++) {
            due("conflicts " + p, x.conflicts(p), conflictsAt[p]);
            due("reached " + p, x.reached(p) ? 1 : 0, reached[p] ? 1 : 0);
            for (int r = 0; r < 4; r++) {
                due("holds " + p + " " + r, x.holds(p, r), holds[p][r]);
                due("wanted " + p + " " + r, x.wanted(p, r) ? 1 : 0, reached[p] && wanted[p][1 << r] ? 1 : 0);
            }
        }
        return conflicts;
    }

    /** free, unset and idle from the states (point, references that hold nothing, empty owners). */
    private static void compareEmptiness() {
        LoanChecker x = fresh();
        boolean[][] free = new boolean[count][4];
        boolean[][] empty = new boolean[count][4];
        Set<Integer> seen = new HashSet<>();
        ArrayDeque<Integer> open = new ArrayDeque<>();
        open.add(0);
        seen.add(0);
        while (!open.isEmpty()) {
            int state = open.poll();
            int p = state / 256;
            int holding = state / 16 % 16;
            int full = state % 16;
            for (int i = 0; i < 4; i++) {
                if ((holding >> i & 1) == 0) free[p][i] = true;
                if ((full >> i & 1) == 0) empty[p][i] = true;
            }
            int nowHolding = pass(p, holding) | (makes(p) ? 1 << flow[p][1] : 0);
            int nowFull = full;
            if (flow[p][0] == 0) nowFull |= 1 << flow[p][1];
            if (flow[p][0] == 2) nowFull &= ~(1 << flow[p][1]);
            for (int n : behind(p)) {
                int then = n * 256 + nowHolding * 16 + nowFull;
                if (n >= 0 && seen.add(then)) open.add(then);
            }
        }
        for (int p = 0; p < count; p++) {
            int kind = flow[p][0];
            for (int r = 0; r < 4; r++) due("free " + p + " " + r, x.free(p, r) ? 1 : 0, free[p][r] ? 1 : 0);
            boolean needs = kind >= 1 && kind <= 4;
            boolean unset = needs && empty[p][kind <= 2 ? flow[p][1] : flow[p][2]];
            due("unset " + p, x.unset(p) ? 1 : 0, unset ? 1 : 0);
            due("idle " + p, x.idle(p) ? 1 : 0, kind == 7 && free[p][flow[p][1]] ? 1 : 0);
        }
    }

    private static void compareSums() {
        LoanChecker x = fresh();
        int faults = 0;
        int first = -3;
        int brokenSet = 0;
        for (int p = 0; p < count; p++) {
            brokenSet |= x.conflicts(p);
            if (x.conflicts(p) == 0 && !x.unset(p) && !x.idle(p)) continue;
            faults++;
            if (first < 0) first = p;
        }
        due("faults", x.faults(), faults);
        due("firstFault", x.firstFault(), first);
        due("broken", x.broken(), Integer.bitCount(brokenSet));
    }
}
