import java.util.ArrayList;
import java.util.Arrays;
import java.util.HashSet;
import java.util.List;
import java.util.Set;

/**
 * The document told once more, as slowly and plainly as can be: nothing is held but what came, all else is
 * found anew by each question, spot by spot. Answers are compared with RoadTrace's.
 */
final class Model {
    static final int NONE = -6, UNKNOWN = -1, OUTSIDE = -2, STATE = -3, FULL = -4, NO = -5;
    private static final int FAR = 1_000_000;

    private List<int[]> crossings = new ArrayList<>();
    private List<int[]> roads = new ArrayList<>();
    private List<int[]> fixes = new ArrayList<>();
    private int[] rules = {4, 1, 1, 40};
    private final Model[] images = new Model[2];

    // what follows from the above, thrown away with each change
    private final java.util.HashMap<Integer, Integer> wayMemo = new java.util.HashMap<>();
    private List<List<Candidate>> laid;
    private int[] pieceOf;
    private int[] beforeOf;

    static final class Candidate {
        int spot;
        int apart;
        int cost = NONE;
        int back = NONE;
    }

    int call(String name, int a, int b, int c) {
        switch (name) {
            case "crossing": return crossing(a, b);
            case "road": return road(a, b, c);
            case "rule": return rule(a, b);
            case "cell": return cell(a, b);
            case "between": return between(a, b);
            case "way": return way(a, b);
            case "fix": return fix(a, b);
            case "drop": return drop();
            case "candidate": return candidate(a, b, c);
            case "best": return best(a);
            case "decided": return decided(a);
            case "piece": return piece(a);
            case "step": return step(a);
            case "through": return through(a, b);
            case "total": return total(a);
            case "image": return image(a);
            case "restore": return restore(a);
            case "told": return told(a);
            default: throw new IllegalArgumentException(name);
        }
    }

    private static boolean in(int n, int low, int high) {
        return low <= n && n <= high;
    }

    private void changed() {
        wayMemo.clear();
        laid = null;
    }

    private int crossing(int x, int y) {
        if (!in(x, 0, 63) || !in(y, 0, 63)) return OUTSIDE;
        if (!fixes.isEmpty()) return STATE;
        for (int[] c : crossings) if (c[0] == x && c[1] == y) return NO;
        if (crossings.size() == 12) return FULL;
        crossings.add(new int[] {x, y});
        changed();
        return crossings.size();
    }

    private boolean isCrossing(int n) {
        return in(n, 0, crossings.size() - 1);
    }

    private int road(int first, int last, int way) {
        if (!isCrossing(first) || !isCrossing(last)) return UNKNOWN;
        if (!in(way, 0, 1)) return OUTSIDE;
        if (!fixes.isEmpty()) return STATE;
        if (first == last) return NO;
        int[] f = crossings.get(first);
        int[] l = crossings.get(last);
        if (f[0] != l[0] && f[1] != l[1]) return NO;
        for (int[] r : roads) {
            if (r[0] == first && r[1] == last || r[0] == last && r[1] == first) return NO;
        }
        if (roads.size() == 20) return FULL;
        roads.add(new int[] {first, last, way});
        changed();
        return roads.size();
    }

    private int rule(int what, int n) {
        int[] most = {8, 9, 9, 99};
        if (!in(what, 0, 3) || !in(n, 0, most[what])) return OUTSIDE;
        if (!fixes.isEmpty()) return STATE;
        int was = rules[what];
        rules[what] = n;
        changed();
        return was;
    }

    private int length(int road) {
        int[] f = crossings.get(roads.get(road)[0]);
        int[] l = crossings.get(roads.get(road)[1]);
        return apart(f, l);
    }

    private int[] place(int road, int offset) {
        int[] f = crossings.get(roads.get(road)[0]);
        int[] l = crossings.get(roads.get(road)[1]);
        return new int[] {f[0] + offset * Integer.signum(l[0] - f[0]), f[1] + offset * Integer.signum(l[1] - f[1])};
    }

    private static int apart(int[] one, int[] other) {
        return Math.abs(one[0] - other[0]) + Math.abs(one[1] - other[1]);
    }

    private int cell(int x, int y) {
        if (!in(x, 0, 7) || !in(y, 0, 7)) return OUTSIDE;
        Set<Integer> found = new HashSet<>();
        for (int r = 0; r < roads.size(); r++) {
            for (int o = 0; o <= length(r); o++) {
                int[] p = place(r, o);
                if (p[0] / 8 == x && p[1] / 8 == y) found.add(r);
            }
        }
        return found.size();
    }

    /** Every crossing and every spot is a node; the nodes 0 to 11 are crossings, 100 and more are spots. */
    private int[] reach(int from) {
        int[] far = new int[100 + 2000];
        Arrays.fill(far, FAR);
        far[from] = 0;
        boolean again = true;
        while (again) {
            again = false;
            for (int r = 0; r < roads.size(); r++) {
                int base = 100 + 100 * r;
                boolean both = roads.get(r)[2] == 0;
                again |= relax(far, roads.get(r)[0], base, 0);
                for (int o = 0; o < length(r); o++) again |= relax(far, base + o, base + o + 1, 1);
                again |= relax(far, base + length(r), roads.get(r)[1], 0);
                if (both) {
                    again |= relax(far, roads.get(r)[1], base + length(r), 0);
                    for (int o = length(r); o > 0; o--) again |= relax(far, base + o, base + o - 1, 1);
                    again |= relax(far, base, roads.get(r)[0], 0);
                }
            }
        }
        return far;
    }

    private static boolean relax(int[] far, int from, int to, int length) {
        if (far[from] + length >= far[to]) return false;
        far[to] = far[from] + length;
        return true;
    }

    private int between(int one, int other) {
        if (!isCrossing(one) || !isCrossing(other)) return UNKNOWN;
        return nodeWay(one, other);
    }

    private int nodeWay(int one, int other) {
        int key = one * 10000 + other;
        if (!wayMemo.containsKey(key)) {
            int[] far = reach(one);
            for (int i = 0; i < far.length; i++) wayMemo.put(one * 10000 + i, far[i] >= FAR ? NONE : far[i]);
        }
        return wayMemo.get(key);
    }

    private boolean isSpot(int code) {
        return code >= 0 && code / 100 < roads.size() && code % 100 <= length(code / 100);
    }

    private int way(int one, int other) {
        if (!isSpot(one) || !isSpot(other)) return UNKNOWN;
        return nodeWay(100 + one, 100 + other);
    }

    private int fix(int x, int y) {
        if (!in(x, 0, 63) || !in(y, 0, 63)) return OUTSIDE;
        if (fixes.size() == 16) return FULL;
        fixes.add(new int[] {x, y});
        laid = null;
        return fixes.size();
    }

    private int drop() {
        if (fixes.isEmpty()) return NO;
        fixes.remove(fixes.size() - 1);
        laid = null;
        return fixes.size();
    }

    private boolean isFix(int n) {
        return in(n, 0, fixes.size() - 1);
    }

    private List<Candidate> candidates(int[] fix) {
        List<Candidate> found = new ArrayList<>();
        for (int r = 0; r < roads.size(); r++) {
            Candidate nearest = null;
            for (int o = 0; o <= length(r); o++) {
                int apart = apart(fix, place(r, o));
                if (nearest == null || apart < nearest.apart) {
                    nearest = new Candidate();
                    nearest.spot = 100 * r + o;
                    nearest.apart = apart;
                }
            }
            if (nearest.apart <= rules[0]) found.add(nearest);
        }
        return found;
    }

    private void lay() {
        if (laid != null) return;
        laid = new ArrayList<>();
        pieceOf = new int[fixes.size()];
        beforeOf = new int[fixes.size()];
        int before = NONE;
        for (int f = 0; f < fixes.size(); f++) {
            List<Candidate> here = candidates(fixes.get(f));
            laid.add(here);
            pieceOf[f] = NONE;
            beforeOf[f] = NONE;
            if (here.isEmpty()) continue;
            boolean joined = before != NONE && join(here, f, before);
            if (joined) {
                beforeOf[f] = before;
                pieceOf[f] = pieceOf[before];
            } else {
                for (Candidate c : here) c.cost = rules[1] * c.apart;
                pieceOf[f] = before == NONE ? 0 : pieceOf[before] + 1;
            }
            before = f;
        }
    }

    private boolean join(List<Candidate> here, int f, int before) {
        boolean any = false;
        int straight = apart(fixes.get(f), fixes.get(before));
        List<Candidate> there = laid.get(before);
        for (Candidate c : here) {
            for (int b = there.size() - 1; b >= 0; b--) {
                if (there.get(b).cost == NONE) continue;
                int length = way(there.get(b).spot, c.spot);
                if (length == NONE || length > straight + rules[3]) continue;
                int cost = rules[1] * c.apart + there.get(b).cost + rules[2] * Math.abs(length - straight);
                if (c.cost == NONE || cost <= c.cost) {
                    c.cost = cost;
                    c.back = b;
                }
                any = true;
            }
        }
        return any;
    }

    private int candidate(int fix, int k, int what) {
        if (!isFix(fix)) return UNKNOWN;
        if (!in(what, 0, 3)) return OUTSIDE;
        lay();
        List<Candidate> here = laid.get(fix);
        if (k == -1) return here.size();
        if (!in(k, 0, here.size() - 1)) return NONE;
        Candidate c = here.get(k);
        return what == 0 ? c.spot : what == 1 ? c.apart : what == 2 ? c.cost : c.back;
    }

    private int lastOf(int piece) {
        int last = NONE;
        for (int f = 0; f < fixes.size(); f++) if (pieceOf[f] == piece) last = f;
        return last;
    }

    private int cheapest(int f) {
        int best = NONE;
        List<Candidate> here = laid.get(f);
        for (int k = 0; k < here.size(); k++) {
            int cost = here.get(k).cost;
            if (cost != NONE && (best == NONE || cost < here.get(best).cost)) best = k;
        }
        return best;
    }

    private int follow(int from, int k, int to) {
        return from == to ? k : follow(beforeOf[from], laid.get(from).get(k).back, to);
    }

    private int chosen(int f) {
        int last = lastOf(pieceOf[f]);
        return follow(last, cheapest(last), f);
    }

    private int best(int fix) {
        if (!isFix(fix)) return UNKNOWN;
        lay();
        return pieceOf[fix] == NONE ? NONE : laid.get(fix).get(chosen(fix)).spot;
    }

    private int pieces() {
        int most = -1;
        for (int p : pieceOf) most = Math.max(most, p);
        return most + 1;
    }

    private int decided(int fix) {
        if (!isFix(fix)) return UNKNOWN;
        lay();
        if (pieceOf[fix] == NONE) return NONE;
        if (pieceOf[fix] == pieces() - 1) {
            Set<Integer> from = new HashSet<>();
            int last = lastOf(pieceOf[fix]);
            for (int k = 0; k < laid.get(last).size(); k++) {
                if (laid.get(last).get(k).cost != NONE) from.add(follow(last, k, fix));
            }
            if (from.size() != 1) return NONE;
        }
        return best(fix);
    }

    private int piece(int fix) {
        if (!isFix(fix)) return UNKNOWN;
        lay();
        return pieceOf[fix];
    }

    private int step(int fix) {
        if (!isFix(fix)) return UNKNOWN;
        lay();
        return pieceOf[fix] == NONE || beforeOf[fix] == NONE ? NONE : way(best(beforeOf[fix]), best(fix));
    }

    private int through(int fix, int k) {
        if (!isFix(fix)) return UNKNOWN;
        if (step(fix) == NONE) return NONE;
        List<Integer> met = crossingsOn(best(beforeOf[fix]), best(fix));
        return in(k, 0, met.size() - 1) ? met.get(k) : NONE;
    }

    private List<Integer> crossingsOn(int one, int other) {
        int least = way(one, other);
        int[] a = roads.get(one / 100);
        int[] b = roads.get(other / 100);
        boolean sameRoad = one / 100 == other / 100;
        if (sameRoad && (a[2] == 0 || other >= one) && Math.abs(other - one) == least) return List.of();
        for (int leave = 0; leave <= 1; leave++) {
            for (int come = 0; come <= 1; come++) {
                if (leave == 0 && a[2] == 1 || come == 1 && b[2] == 1) continue;
                int out = leave == 0 ? one % 100 : length(one / 100) - one % 100;
                int in = come == 0 ? other % 100 : length(other / 100) - other % 100;
                List<Integer> path = leastPath(a[leave], b[come], least - out - in, new ArrayList<>());
                if (path != null) return path;
            }
        }
        throw new IllegalStateException("no way out");
    }

    /** Tries every row of crossings, those of lesser numbers first, until one is just as long as due. */
    private List<Integer> leastPath(int at, int goal, int left, List<Integer> met) {
        if (left < 0 || met.contains(at)) return null;
        met.add(at);
        if (at == goal && left == 0) return met;
        for (int next = 0; next < crossings.size(); next++) {
            for (int r = 0; r < roads.size(); r++) {
                int[] road = roads.get(r);
                boolean on = road[0] == at && road[1] == next;
                boolean back = road[2] == 0 && road[1] == at && road[0] == next;
                if (!on && !back) continue;
                List<Integer> found = leastPath(next, goal, left - length(r), met);
                if (found != null) return found;
            }
        }
        met.remove(met.size() - 1);
        return null;
    }

    private int total(int what) {
        if (!in(what, 0, 4)) return OUTSIDE;
        lay();
        if (what == 1) return pieces();
        int sum = 0;
        if (what == 0) {
            for (int p = 0; p < pieces(); p++) sum += laid.get(lastOf(p)).get(cheapest(lastOf(p))).cost;
            return sum;
        }
        for (int f = 0; f < fixes.size(); f++) {
            if (what == 2) sum += pieceOf[f] == NONE ? 1 : 0;
            if (what == 3) sum += decided(f) == NONE ? 0 : 1;
            if (what == 4) sum += Math.max(0, step(f));
        }
        return sum;
    }

    private int image(int n) {
        if (!in(n, 0, 1)) return OUTSIDE;
        images[n] = new Model();
        images[n].take(this);
        return 1;
    }

    private int restore(int n) {
        if (!in(n, 0, 1)) return OUTSIDE;
        if (images[n] == null) return STATE;
        take(images[n]);
        return 1;
    }

    private void take(Model other) {
        crossings = new ArrayList<>(other.crossings);
        roads = new ArrayList<>(other.roads);
        fixes = new ArrayList<>(other.fixes);
        rules = other.rules.clone();
        changed();
    }

    private int told(int what) {
        if (what == 0) return crossings.size();
        if (what == 1) return roads.size();
        if (what == 2) return fixes.size();
        if (in(what, 3, 6)) return rules[what - 3];
        if (in(what, 100, 199) && isCrossing(what - 100)) {
            return 100 * crossings.get(what - 100)[0] + crossings.get(what - 100)[1];
        }
        if (in(what, 200, 299) && what - 200 < roads.size()) {
            int[] r = roads.get(what - 200);
            return 1000 * r[0] + 10 * r[1] + r[2];
        }
        if (in(what, 300, 399) && isFix(what - 300)) {
            return 100 * fixes.get(what - 300)[0] + fixes.get(what - 300)[1];
        }
        return OUTSIDE;
    }
}
