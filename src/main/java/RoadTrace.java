/**
 * Where somebody went: fixes that lie near the roads of a net are laid on these roads so that
 * detours and distances together cost least.
 */
public final class RoadTrace {
    public static final int NONE = -6, UNKNOWN = -1, OUTSIDE = -2, STATE = -3, FULL = -4, NO = -5;

    private static final int MOST_CROSSINGS = 12;
    private static final int MOST_ROADS = 20;
    private static final int MOST_FIXES = 16;
    private static final int LAST_PLACE = 63;
    private static final int CELLS = 8;
    private static final int CELL_SIZE = 8;
    private static final int SPOT_BASE = 100;
    private static final int BOTH = 0;
    private static final int ONE_WAY = 1;
    private static final int IMAGES = 2;

    private final State now;
    private final State[] images;

    public RoadTrace() {
        now = new State();
        images = new State[IMAGES];
        for (int i = 0; i < IMAGES; i++) {
            images[i] = new State();
        }
    }

    // ---- 1 the net

    public int crossing(int x, int y) {
        if (!isPlace(x, y)) {
            return OUTSIDE;
        }
        if (now.trace.fixes > 0) {
            return STATE;
        }
        if (now.net.isTaken(x, y)) {
            return NO;
        }
        if (now.net.crossings >= MOST_CROSSINGS) {
            return FULL;
        }
        now.net.addCrossing(x, y);
        return now.net.crossings;
    }

    public int road(int first, int last, int way) {
        Net net = now.net;
        if (!net.hasCrossing(first) || !net.hasCrossing(last)) {
            return UNKNOWN;
        }
        if (way != BOTH && way != ONE_WAY) {
            return OUTSIDE;
        }
        if (now.trace.fixes > 0) {
            return STATE;
        }
        if (first == last || !net.areInOneRow(first, last) || net.areJoined(first, last)) {
            return NO;
        }
        if (net.roads >= MOST_ROADS) {
            return FULL;
        }
        net.addRoad(first, last, way);
        return net.roads;
    }

    public int rule(int what, int n) {
        if (!now.rules.allows(what, n)) {
            return OUTSIDE;
        }
        if (now.trace.fixes > 0) {
            return STATE;
        }
        return now.rules.change(what, n);
    }

    public int cell(int x, int y) {
        if (x < 0 || x >= CELLS || y < 0 || y >= CELLS) {
            return OUTSIDE;
        }
        return now.net.roadsInCell(x, y);
    }

    public int between(int one, int other) {
        if (!now.net.hasCrossing(one) || !now.net.hasCrossing(other)) {
            return UNKNOWN;
        }
        return now.net.leastBetween(one, other);
    }

    public int way(int one, int other) {
        if (!now.net.hasSpot(one) || !now.net.hasSpot(other)) {
            return UNKNOWN;
        }
        return now.net.wayLength(one, other);
    }

    // ---- 2 fixes

    public int fix(int x, int y) {
        if (!isPlace(x, y)) {
            return OUTSIDE;
        }
        if (now.trace.fixes >= MOST_FIXES) {
            return FULL;
        }
        now.trace.addFix(x, y);
        return now.trace.fixes;
    }

    public int drop() {
        if (now.trace.fixes <= 0) {
            return NO;
        }
        now.trace.dropFix();
        return now.trace.fixes;
    }

    public int candidate(int fix, int k, int what) {
        if (!now.trace.hasFix(fix)) {
            return UNKNOWN;
        }
        if (what < 0 || what > 3) {
            return OUTSIDE;
        }
        if (k == -1) {
            return now.trace.counts[fix];
        }
        return now.trace.tellCandidate(fix, k, what);
    }

    // ---- 3 what is least

    public int best(int fix) {
        if (!now.trace.hasFix(fix)) {
            return UNKNOWN;
        }
        return now.trace.chosenSpot(fix);
    }

    public int decided(int fix) {
        if (!now.trace.hasFix(fix)) {
            return UNKNOWN;
        }
        return now.trace.decideds[fix] ? now.trace.chosenSpot(fix) : NONE;
    }

    public int piece(int fix) {
        if (!now.trace.hasFix(fix)) {
            return UNKNOWN;
        }
        return now.trace.pieces[fix];
    }

    public int step(int fix) {
        if (!now.trace.hasFix(fix)) {
            return UNKNOWN;
        }
        return now.trace.stepLength(fix);
    }

    public int through(int fix, int k) {
        if (!now.trace.hasFix(fix)) {
            return UNKNOWN;
        }
        return now.trace.stepCrossing(fix, k);
    }

    public int total(int what) {
        switch (what) {
            case 0:
                return now.trace.sumOfCosts();
            case 1:
                return now.trace.countPieces();
            case 2:
                return now.trace.countGaps();
            case 3:
                return now.trace.countDecided();
            case 4:
                return now.trace.sumOfSteps();
            default:
                return OUTSIDE;
        }
    }

    public int image(int n) {
        if (n < 0 || n >= IMAGES) {
            return OUTSIDE;
        }
        images[n].copyFrom(now);
        images[n].kept = true;
        return 1;
    }

    public int restore(int n) {
        if (n < 0 || n >= IMAGES) {
            return OUTSIDE;
        }
        if (!images[n].kept) {
            return STATE;
        }
        now.copyFrom(images[n]);
        return 1;
    }

    public int told(int what) {
        if (what < 0) {
            return OUTSIDE;
        }
        int number = what % 100;
        switch (what / 100) {
            case 0:
                return tellCount(number);
            case 1:
                return now.net.tellCrossing(number);
            case 2:
                return now.net.tellRoad(number);
            case 3:
                return now.trace.tellFix(number);
            default:
                return OUTSIDE;
        }
    }

    private int tellCount(int number) {
        switch (number) {
            case 0:
                return now.net.crossings;
            case 1:
                return now.net.roads;
            case 2:
                return now.trace.fixes;
            default:
                return now.rules.tellRule(number - 3);
        }
    }

    private static boolean isPlace(int x, int y) {
        return x >= 0 && x <= LAST_PLACE && y >= 0 && y <= LAST_PLACE;
    }

    /** All that an image keeps. */
    static final class State {
        final Net net;
        final Rules rules;
        final Trace trace;
        boolean kept;

        State() {
            net = new Net();
            rules = new Rules();
            trace = new Trace(net, rules);
            kept = false;
        }

        void copyFrom(State other) {
            net.copyFrom(other.net);
            rules.copyFrom(other.rules);
            trace.copyFrom(other.trace);
        }
    }

    /** The four numbers that say what is near and what costs. */
    static final class Rules {
        static final int REACH = 0;
        static final int OFF = 1;
        static final int MORE = 2;
        static final int SLACK = 3;
        static final int RULES = 4;

        private static final int[] MOST = {8, 9, 9, 99};

        final int[] values = {4, 1, 1, 40};

        boolean allows(int what, int n) {
            return what >= 0 && what < RULES && n >= 0 && n <= MOST[what];
        }

        /** Answers what it was before. */
        int change(int what, int n) {
            if (what < 0 || what >= RULES) {
                return OUTSIDE;
            }
            int before = values[what];
            values[what] = n;
            return before;
        }

        int tellRule(int what) {
            return what >= 0 && what < RULES ? values[what] : OUTSIDE;
        }

        void copyFrom(Rules other) {
            System.arraycopy(other.values, 0, values, 0, RULES);
        }
    }

    /** Crossings, roads, and the least ways by them. */
    static final class Net {
        // the ways out, in the order in which the document prefers them
        private static final int ALONG = 0;
        private static final int FIRST_TO_LAST = 2;
        private static final int LAST_TO_FIRST = 3;
        private static final int LAST_TO_LAST = 4;

        int crossings;
        int roads;
        final int[] xs = new int[MOST_CROSSINGS];
        final int[] ys = new int[MOST_CROSSINGS];
        final int[] firsts = new int[MOST_ROADS];
        final int[] lasts = new int[MOST_ROADS];
        final int[] kinds = new int[MOST_ROADS];
        final int[] lengths = new int[MOST_ROADS];
        final int[] least = new int[MOST_CROSSINGS * MOST_CROSSINGS];

        boolean hasCrossing(int crossing) {
            return crossing >= 0 && crossing < crossings;
        }

        boolean hasRoad(int road) {
            return road >= 0 && road < roads;
        }

        boolean hasSpot(int spot) {
            if (spot < 0) {
                return false;
            }
            int road = spot / SPOT_BASE;
            return road < roads && spot % SPOT_BASE <= lengths[road];
        }

        boolean isTaken(int x, int y) {
            for (int i = 0; i < crossings; i++) {
                if (xs[i] == x && ys[i] == y) {
                    return true;
                }
            }
            return false;
        }

        boolean areInOneRow(int one, int other) {
            if (!hasCrossing(one) || !hasCrossing(other)) {
                return false;
            }
            return xs[one] == xs[other] || ys[one] == ys[other];
        }

        boolean areJoined(int one, int other) {
            for (int i = 0; i < roads; i++) {
                boolean sameWay = firsts[i] == one && lasts[i] == other;
                boolean otherWay = firsts[i] == other && lasts[i] == one;
                if (sameWay || otherWay) {
                    return true;
                }
            }
            return false;
        }

        void addCrossing(int x, int y) {
            if (crossings >= MOST_CROSSINGS) {
                return;
            }
            int added = crossings;
            xs[added] = x;
            ys[added] = y;
            for (int i = 0; i < added; i++) {
                least[pair(i, added)] = NONE;
                least[pair(added, i)] = NONE;
            }
            least[pair(added, added)] = 0;
            crossings = added + 1;
        }

        void addRoad(int first, int last, int kind) {
            if (roads >= MOST_ROADS || !hasCrossing(first) || !hasCrossing(last)) {
                return;
            }
            int length = Math.abs(xs[first] - xs[last]) + Math.abs(ys[first] - ys[last]);
            firsts[roads] = first;
            lasts[roads] = last;
            kinds[roads] = kind;
            lengths[roads] = length;
            roads++;
            shortenBy(first, last, length);
            if (kind == BOTH) {
                shortenBy(last, first, length);
            }
        }

        /** A least way can use the new stretch but once, so one round over all pairs is enough. */
        private void shortenBy(int from, int to, int length) {
            for (int i = 0; i < crossings; i++) {
                int ahead = least[pair(i, from)];
                for (int j = 0; ahead != NONE && j < crossings; j++) {
                    int behind = least[pair(to, j)];
                    int known = least[pair(i, j)];
                    if (behind != NONE && (known == NONE || ahead + length + behind < known)) {
                        least[pair(i, j)] = ahead + length + behind;
                    }
                }
            }
        }

        int leastBetween(int one, int other) {
            return hasCrossing(one) && hasCrossing(other) ? least[pair(one, other)] : NONE;
        }

        private static int pair(int one, int other) {
            return one * MOST_CROSSINGS + other;
        }

        int roadsInCell(int cellX, int cellY) {
            int count = 0;
            for (int i = 0; i < roads; i++) {
                if (spans(xs[firsts[i]], xs[lasts[i]], cellX) && spans(ys[firsts[i]], ys[lasts[i]], cellY)) {
                    count++;
                }
            }
            return count;
        }

        private static boolean spans(int one, int other, int cell) {
            return Math.min(one, other) / CELL_SIZE <= cell && cell <= Math.max(one, other) / CELL_SIZE;
        }

        /** How far a place is apart from the nearest spot of a road. */
        int apartFromRoad(int road, int x, int y) {
            if (!hasRoad(road)) {
                return NONE;
            }
            return Math.abs(nearestX(road, x) - x) + Math.abs(nearestY(road, y) - y);
        }

        /** The code of the spot of a road that is the nearest to a place. */
        int nearestSpot(int road, int x, int y) {
            if (!hasRoad(road)) {
                return NONE;
            }
            int byX = Math.abs(nearestX(road, x) - xs[firsts[road]]);
            int byY = Math.abs(nearestY(road, y) - ys[firsts[road]]);
            return SPOT_BASE * road + byX + byY;
        }

        private int nearestX(int road, int x) {
            return held(x, xs[firsts[road]], xs[lasts[road]]);
        }

        private int nearestY(int road, int y) {
            return held(y, ys[firsts[road]], ys[lasts[road]]);
        }

        /** The number from one to the other, in whichever order, that is the nearest to n. */
        private static int held(int n, int one, int other) {
            return Math.max(Math.min(one, other), Math.min(n, Math.max(one, other)));
        }

        int wayLength(int from, int to) {
            if (!hasSpot(from) || !hasSpot(to)) {
                return NONE;
            }
            int length = NONE;
            for (int out = ALONG; out <= LAST_TO_LAST; out++) {
                int other = lengthOut(from, to, out);
                if (other != NONE && (length == NONE || other < length)) {
                    length = other;
                }
            }
            return length;
        }

        /** The first way out by which the way is as little as it can be, or NONE. */
        private int wayOut(int from, int to) {
            int length = wayLength(from, to);
            for (int out = ALONG; length != NONE && out <= LAST_TO_LAST; out++) {
                if (lengthOut(from, to, out) == length) {
                    return out;
                }
            }
            return NONE;
        }

        /** Both spots have been looked at before. */
        private int lengthOut(int from, int to, int out) {
            if (out == ALONG) {
                return lengthAlong(from, to);
            }
            int leaving = leaveLength(from, leavesByLast(out));
            int middle = least[pair(endOf(from, leavesByLast(out)), endOf(to, comesByLast(out)))];
            int coming = comeLength(to, comesByLast(out));
            return leaving == NONE || middle == NONE || coming == NONE ? NONE : leaving + middle + coming;
        }

        private int lengthAlong(int from, int to) {
            int road = from / SPOT_BASE;
            if (road != to / SPOT_BASE || kinds[road] != BOTH && to < from) {
                return NONE;
            }
            return Math.abs(to - from);
        }

        private int leaveLength(int spot, boolean byLast) {
            int road = spot / SPOT_BASE;
            int offset = spot % SPOT_BASE;
            if (byLast) {
                return lengths[road] - offset;
            }
            return kinds[road] == BOTH ? offset : NONE;
        }

        private int comeLength(int spot, boolean byLast) {
            int road = spot / SPOT_BASE;
            int offset = spot % SPOT_BASE;
            if (!byLast) {
                return offset;
            }
            return kinds[road] == BOTH ? lengths[road] - offset : NONE;
        }

        private int endOf(int spot, boolean byLast) {
            int road = spot / SPOT_BASE;
            return byLast ? lasts[road] : firsts[road];
        }

        private static boolean leavesByLast(int out) {
            return out >= LAST_TO_FIRST;
        }

        private static boolean comesByLast(int out) {
            return out == FIRST_TO_LAST || out == LAST_TO_LAST;
        }

        /** The k-th crossing on the way from one spot to another one, or NONE. */
        int crossingOnWay(int from, int to, int k) {
            int out = wayOut(from, to);
            if (out == NONE || out == ALONG || k < 0) {
                return NONE;
            }
            int at = endOf(from, leavesByLast(out));
            int goal = endOf(to, comesByLast(out));
            // no least way meets a crossing twice, so the goal is met before the second bound
            for (int i = 0; i < k && i < MOST_CROSSINGS; i++) {
                if (at == goal) {
                    return NONE;
                }
                at = nextCrossing(at, goal);
            }
            return at;
        }

        /** The least crossing to which a road leads and that is on a least way to the goal, or NONE. */
        private int nextCrossing(int at, int goal) {
            int next = NONE;
            int length = leastBetween(at, goal);
            for (int i = 0; length != NONE && i < roads; i++) {
                int other = leadsFrom(i, at);
                int rest = leastBetween(other, goal);
                if (rest != NONE && lengths[i] + rest == length && (next == NONE || other < next)) {
                    next = other;
                }
            }
            return next;
        }

        private int leadsFrom(int road, int crossing) {
            if (firsts[road] == crossing) {
                return lasts[road];
            }
            return lasts[road] == crossing && kinds[road] == BOTH ? firsts[road] : NONE;
        }

        int tellCrossing(int number) {
            return hasCrossing(number) ? 100 * xs[number] + ys[number] : OUTSIDE;
        }

        int tellRoad(int number) {
            return hasRoad(number) ? 1000 * firsts[number] + 10 * lasts[number] + kinds[number] : OUTSIDE;
        }

        void copyFrom(Net other) {
            crossings = other.crossings;
            roads = other.roads;
            System.arraycopy(other.xs, 0, xs, 0, MOST_CROSSINGS);
            System.arraycopy(other.ys, 0, ys, 0, MOST_CROSSINGS);
            System.arraycopy(other.firsts, 0, firsts, 0, MOST_ROADS);
            System.arraycopy(other.lasts, 0, lasts, 0, MOST_ROADS);
            System.arraycopy(other.kinds, 0, kinds, 0, MOST_ROADS);
            System.arraycopy(other.lengths, 0, lengths, 0, MOST_ROADS);
            System.arraycopy(other.least, 0, least, 0, MOST_CROSSINGS * MOST_CROSSINGS);
        }
    }

    /** The fixes, their candidates, and what is least of them. */
    static final class Trace {
        private static final int SLOTS = MOST_FIXES * MOST_ROADS;

        private final Net net;
        private final Rules rules;
        int fixes;
        final int[] xs = new int[MOST_FIXES];
        final int[] ys = new int[MOST_FIXES];
        final int[] counts = new int[MOST_FIXES];
        /** The number of its piece; NONE for a gap. */
        final int[] pieces = new int[MOST_FIXES];
        /** The fix before in its piece; NONE for one that begins a piece and for a gap. */
        final int[] befores = new int[MOST_FIXES];
        final int[] spots = new int[SLOTS];
        final int[] aparts = new int[SLOTS];
        /** NONE: it is dead. */
        final int[] costs = new int[SLOTS];
        final int[] backs = new int[SLOTS];
        /** The candidate by best; NONE for a gap. */
        final int[] chosens = new int[MOST_FIXES];
        final boolean[] decideds = new boolean[MOST_FIXES];

        Trace(Net net, Rules rules) {
            this.net = net;
            this.rules = rules;
        }

        boolean hasFix(int fix) {
            return fix >= 0 && fix < fixes;
        }

        private boolean hasCandidate(int fix, int k) {
            return hasFix(fix) && k >= 0 && k < counts[fix];
        }

        private boolean isGap(int fix) {
            return !hasFix(fix) || pieces[fix] == NONE;
        }

        private static int slot(int fix, int k) {
            return fix * MOST_ROADS + k;
        }

        void addFix(int x, int y) {
            if (fixes >= MOST_FIXES) {
                return;
            }
            int before = lastFixed();
            int added = fixes;
            xs[added] = x;
            ys[added] = y;
            fixes = added + 1;
            befores[added] = NONE;
            findCandidates(added);
            if (counts[added] == 0) {
                pieces[added] = NONE;
            } else if (before == NONE) {
                beginPiece(added, 0);
            } else if (goesOn(added, before)) {
                pieces[added] = pieces[before];
                befores[added] = before;
            } else {
                beginPiece(added, pieces[before] + 1);
            }
            settle();
        }

        void dropFix() {
            if (fixes <= 0) {
                return;
            }
            // costs and pointers of a fix depend on those before it alone, so they stay
            fixes--;
            settle();
        }

        /** The last fix that is no gap, or NONE. */
        private int lastFixed() {
            for (int i = fixes - 1; i >= 0; i--) {
                if (!isGap(i)) {
                    return i;
                }
            }
            return NONE;
        }

        private void findCandidates(int fix) {
            int count = 0;
            for (int road = 0; road < net.roads; road++) {
                int apart = net.apartFromRoad(road, xs[fix], ys[fix]);
                if (apart <= rules.values[Rules.REACH]) {
                    spots[slot(fix, count)] = net.nearestSpot(road, xs[fix], ys[fix]);
                    aparts[slot(fix, count)] = apart;
                    count++;
                }
            }
            counts[fix] = count;
        }

        private void beginPiece(int fix, int piece) {
            pieces[fix] = piece;
            for (int k = 0; k < counts[fix]; k++) {
                costs[slot(fix, k)] = rules.values[Rules.OFF] * aparts[slot(fix, k)];
                backs[slot(fix, k)] = NONE;
            }
        }

        /** Joins each candidate to the cheapest one before; false if all are dead. */
        private boolean goesOn(int fix, int before) {
            boolean alive = false;
            for (int k = 0; k < counts[fix]; k++) {
                joinCandidate(fix, k, before);
                alive = alive || costs[slot(fix, k)] != NONE;
            }
            return alive;
        }

        private void joinCandidate(int fix, int k, int before) {
            int straight = Math.abs(xs[fix] - xs[before]) + Math.abs(ys[fix] - ys[before]);
            int cost = NONE;
            int back = NONE;
            for (int b = 0; b < counts[before]; b++) {
                int start = costs[slot(before, b)];
                int length = start == NONE ? NONE : net.wayLength(spots[slot(before, b)], spots[slot(fix, k)]);
                if (length == NONE || length > straight + rules.values[Rules.SLACK]) {
                    continue;
                }
                int together = start + rules.values[Rules.MORE] * Math.abs(length - straight);
                if (cost == NONE || together < cost) {
                    cost = together;
                    back = b;
                }
            }
            int off = rules.values[Rules.OFF] * aparts[slot(fix, k)];
            costs[slot(fix, k)] = cost == NONE ? NONE : cost + off;
            backs[slot(fix, k)] = back;
        }

        int tellCandidate(int fix, int k, int what) {
            if (!hasCandidate(fix, k)) {
                return NONE;
            }
            switch (what) {
                case 0:
                    return spots[slot(fix, k)];
                case 1:
                    return aparts[slot(fix, k)];
                case 2:
                    return costs[slot(fix, k)];
                default:
                    return backs[slot(fix, k)];
            }
        }

        /** Finds anew, from the last fix back, what is best and what is decided. */
        private void settle() {
            int later = NONE;
            int left = 0;
            boolean inLastPiece = true;
            for (int i = fixes - 1; i >= 0; i--) {
                if (isGap(i)) {
                    chosens[i] = NONE;
                    decideds[i] = false;
                    continue;
                }
                if (later != NONE && befores[later] == i) {
                    chosens[i] = backOf(later, chosens[later]);
                    left = backsOf(later, left);
                } else {
                    chosens[i] = cheapest(i);
                    left = alive(i);
                    inLastPiece = later == NONE;
                }
                decideds[i] = !inLastPiece || Integer.bitCount(left) == 1;
                later = i;
            }
        }

        private int cheapest(int fix) {
            int best = NONE;
            int least = NONE;
            for (int k = 0; k < counts[fix]; k++) {
                int cost = costs[slot(fix, k)];
                if (cost != NONE && (least == NONE || cost < least)) {
                    best = k;
                    least = cost;
                }
            }
            return best;
        }

        private int backOf(int fix, int k) {
            return hasCandidate(fix, k) ? backs[slot(fix, k)] : NONE;
        }

        /** The candidates of a fix that are not dead, one bit each. */
        private int alive(int fix) {
            int bits = 0;
            for (int k = 0; k < counts[fix]; k++) {
                if (costs[slot(fix, k)] != NONE) {
                    bits |= 1 << k;
                }
            }
            return bits;
        }

        /** The candidates of the fix before from which some of these come, one bit each. */
        private int backsOf(int fix, int bits) {
            int before = 0;
            for (int k = 0; k < counts[fix]; k++) {
                if ((bits >> k & 1) == 1 && backs[slot(fix, k)] >= 0) {
                    before |= 1 << backs[slot(fix, k)];
                }
            }
            return before;
        }

        int chosenSpot(int fix) {
            if (!hasFix(fix)) {
                return NONE;
            }
            int k = chosens[fix];
            return hasCandidate(fix, k) ? spots[slot(fix, k)] : NONE;
        }

        int stepLength(int fix) {
            int from = stepStart(fix);
            return from == NONE ? NONE : net.wayLength(from, chosenSpot(fix));
        }

        int stepCrossing(int fix, int k) {
            int from = stepStart(fix);
            return from == NONE ? NONE : net.crossingOnWay(from, chosenSpot(fix), k);
        }

        /** The spot by best from which the way to a fix begins, or NONE. */
        private int stepStart(int fix) {
            return isGap(fix) || befores[fix] == NONE ? NONE : chosenSpot(befores[fix]);
        }

        int sumOfCosts() {
            int sum = 0;
            for (int i = 0; i < fixes; i++) {
                int k = chosens[i];
                if (endsPiece(i) && hasCandidate(i, k)) {
                    sum += costs[slot(i, k)];
                }
            }
            return sum;
        }

        private boolean endsPiece(int fix) {
            for (int i = fix + 1; i < fixes; i++) {
                if (befores[i] == fix) {
                    return false;
                }
            }
            return !isGap(fix);
        }

        int countPieces() {
            int last = lastFixed();
            return last == NONE ? 0 : pieces[last] + 1;
        }

        int countGaps() {
            int count = 0;
            for (int i = 0; i < fixes; i++) {
                if (isGap(i)) {
                    count++;
                }
            }
            return count;
        }

        int countDecided() {
            int count = 0;
            for (int i = 0; i < fixes; i++) {
                if (decideds[i]) {
                    count++;
                }
            }
            return count;
        }

        int sumOfSteps() {
            int sum = 0;
            for (int i = 0; i < fixes; i++) {
                int length = stepLength(i);
                sum += length == NONE ? 0 : length;
            }
            return sum;
        }

        int tellFix(int number) {
            return hasFix(number) ? 100 * xs[number] + ys[number] : OUTSIDE;
        }

        void copyFrom(Trace other) {
            fixes = other.fixes;
            System.arraycopy(other.xs, 0, xs, 0, MOST_FIXES);
            System.arraycopy(other.ys, 0, ys, 0, MOST_FIXES);
            System.arraycopy(other.counts, 0, counts, 0, MOST_FIXES);
            System.arraycopy(other.pieces, 0, pieces, 0, MOST_FIXES);
            System.arraycopy(other.befores, 0, befores, 0, MOST_FIXES);
            System.arraycopy(other.spots, 0, spots, 0, SLOTS);
            System.arraycopy(other.aparts, 0, aparts, 0, SLOTS);
            System.arraycopy(other.costs, 0, costs, 0, SLOTS);
            System.arraycopy(other.backs, 0, backs, 0, SLOTS);
            settle();
        }
    }
}
