import java.lang.reflect.Field;
import java.lang.reflect.Method;
import java.lang.reflect.Modifier;
import java.util.Arrays;
import java.util.Random;
import java.util.Set;
import java.util.TreeSet;

/**
 * What stands before 'Terms': the sentences of 'What it is', each held against what the calls themselves answer over
 * chance nets (the same each time), and 'The public face', line by line.
 */
final class WholeBoundaries {
    private static final int NONE = RoadTrace.NONE;
    private static final int FAR = 1_000_000;
    private static final int RUNS = 400;
    private static final int CALLS = 512;

    private WholeBoundaries() {
    }

    /** Nine crossings on a grid, chance roads of chance ways, chance rules, no fix yet. */
    private static RoadTrace chanceNet(Random chance) {
        RoadTrace x = new RoadTrace();
        int wide = 3 + chance.nextInt(4);
        for (int i = 0; i < 9; i++) {
            x.crossing(20 + i % 3 * wide, 20 + i / 3 * wide);
        }
        int oneWays = chance.nextInt(3);
        for (int i = 0; i < 14; i++) {
            int first = chance.nextInt(9);
            int last = chance.nextBoolean() ? first / 3 * 3 + chance.nextInt(3) : first % 3 + 3 * chance.nextInt(3);
            x.road(first, last, chance.nextInt(2) < oneWays ? 1 : 0);
        }
        x.rule(0, chance.nextInt(4));
        x.rule(1, chance.nextInt(4));
        x.rule(2, chance.nextInt(4));
        x.rule(3, chance.nextInt(12));
        return x;
    }

    private static void chanceFix(RoadTrace x, Random chance) {
        x.fix(18 + chance.nextInt(16), 18 + chance.nextInt(16));
    }

    private static int straight(RoadTrace x, int one, int other) {
        int a = x.told(300 + one);
        int b = x.told(300 + other);
        return Math.abs(a / 100 - b / 100) + Math.abs(a % 100 - b % 100);
    }

    /** What a step costs by the rules, or FAR if it is not possible. */
    private static int stepCost(RoadTrace x, int from, int fromSpot, int to, int toSpot) {
        int straight = straight(x, from, to);
        int length = x.way(fromSpot, toSpot);
        boolean possible = length != NONE && length <= straight + x.told(6);
        return possible ? x.told(5) * Math.abs(length - straight) : FAR;
    }

    private static int offCost(RoadTrace x, int fix, int k) {
        return x.told(4) * x.candidate(fix, k, 1);
    }

    /** Tries all rows of candidates from one fix of a piece to its end, without pointers back. */
    private static int leastOnwards(RoadTrace x, int fix, int k) {
        int next = fix + 1;
        while (next < x.told(2) && x.candidate(next, -1, 0) == 0) {
            next++;
        }
        int off = offCost(x, fix, k);
        if (next >= x.told(2) || x.piece(next) != x.piece(fix)) {
            return off;
        }
        int least = FAR;
        for (int j = 0; j < x.candidate(next, -1, 0); j++) {
            int step = stepCost(x, fix, x.candidate(fix, k, 0), next, x.candidate(next, j, 0));
            if (step != FAR) {
                least = Math.min(least, step + leastOnwards(x, next, j));
            }
        }
        return least >= FAR ? FAR : off + least;
    }

    private static int leastOfPieceFrom(RoadTrace x, int fix) {
        int least = FAR;
        for (int k = 0; k < x.candidate(fix, -1, 0); k++) {
            least = Math.min(least, leastOnwards(x, fix, k));
        }
        return least;
    }

    /** The number of the candidate of a fix that lies at a spot, or NONE. */
    private static int numberOf(RoadTrace x, int fix, int spot) {
        for (int k = 0; k < x.candidate(fix, -1, 0); k++) {
            if (x.candidate(fix, k, 0) == spot) {
                return k;
            }
        }
        return NONE;
    }

    /** The fix before in the same piece, or NONE. */
    private static int beforeInPiece(RoadTrace x, int fix) {
        for (int i = fix - 1; i >= 0; i--) {
            if (x.piece(i) != NONE) {
                return x.piece(i) == x.piece(fix) ? i : NONE;
            }
        }
        return NONE;
    }

    // ---- What it is

    @Sentence(of = Sentence.WHAT_IT_IS, says = "Where somebody went: crossings and roads between them make a net, "
        + "some roads go but one way;")
    static void crossingsAndRoadsMakeANet() {
        for (int run = 0; run < RUNS; run++) {
            RoadTrace x = chanceNet(new Random(run));
            for (int road = 0; road < x.told(1); road++) {
                int told = x.told(200 + road);
                int first = told / 1000;
                int last = told / 10 % 100;
                int length = Math.abs(x.told(100 + first) / 100 - x.told(100 + last) / 100)
                    + Math.abs(x.told(100 + first) % 100 - x.told(100 + last) % 100);
                Check.isTrue("net " + run + ": on by road " + road, x.between(first, last) == length);
                Check.isTrue("net " + run + ": back by road " + road + ", if it goes both ways",
                    told % 10 == 1 || x.between(last, first) == length);
            }
        }
        RoadTrace one = new RoadTrace();
        one.crossing(3, 3);
        one.crossing(3, 9);
        one.road(0, 1, 1);
        Check.due("but one way", one.between(1, 0), NONE);
    }

    @Sentence(of = Sentence.WHAT_IT_IS, says = "fixes come, one by one, none quite on a road; each may lie on any "
        + "road that is near, found by cells;")
    static void eachFixMayLieOnAnyRoadNear() {
        RoadTrace x = new RoadTrace();
        x.crossing(23, 24);
        x.crossing(40, 24);
        x.crossing(40, 39);
        x.road(0, 1, 0);
        x.road(2, 1, 1);
        x.rule(0, 8);
        for (int place = 0; place < 64 * 64; place++) {
            Check.isTrue("a fix comes", x.fix(place / 64, place % 64) == 1);
            int near = 0;
            for (int cell = 0; cell < 9; cell++) {
                near += Math.max(0, x.cell(place / 64 / 8 - 1 + cell / 3, place % 64 / 8 - 1 + cell % 3));
            }
            int count = x.candidate(0, -1, 0);
            Check.isTrue("place " + place + ": no road near by cells, no candidate", near > 0 || count == 0);
            int byX = Math.max(0, Math.max(23 - place / 64, place / 64 - 40));
            int one = byX + Math.abs(place % 64 - 24) <= 8 ? 1 : 0;
            int byY = Math.max(0, Math.max(24 - place % 64, place % 64 - 39));
            int other = Math.abs(place / 64 - 40) + byY <= 8 ? 1 : 0;
            Check.isTrue("place " + place + ": all roads that are near", count == one + other);
            x.drop();
        }
    }

    @Sentence(of = Sentence.WHAT_IT_IS, says = "from one to the next there is a way by the net, and how much longer "
        + "it is than straight on costs, as does how far off the roads the fixes lie;")
    static void detoursAndDistancesCost() {
        for (int run = 0; run < RUNS; run++) {
            Random chance = new Random(run);
            RoadTrace x = chanceNet(chance);
            int due = 0;
            for (int i = 0; i < 10; i++) {
                chanceFix(x, chance);
            }
            for (int i = 0; i < 10; i++) {
                if (x.piece(i) == NONE) {
                    continue;
                }
                due += offCost(x, i, numberOf(x, i, x.best(i)));
                int before = beforeInPiece(x, i);
                due += before == NONE ? 0 : stepCost(x, before, x.best(before), i, x.best(i));
                int length = before == NONE ? NONE : x.way(x.best(before), x.best(i));
                Check.isTrue("run " + run + ": the way to fix " + i, x.step(i) == length);
            }
            Check.isTrue("run " + run + ": all that costs, added, is " + due, x.total(0) == due);
        }
    }

    @Sentence(of = Sentence.WHAT_IT_IS, says = "what is least in all is taken,")
    static void whatIsLeastInAllIsTaken() {
        for (int run = 0; run < RUNS; run++) {
            Random chance = new Random(run);
            RoadTrace x = chanceNet(chance);
            for (int i = 0; i < 6; i++) {
                chanceFix(x, chance);
            }
            int least = 0;
            for (int i = 0; i < 6; i++) {
                if (x.piece(i) != NONE && beforeInPiece(x, i) == NONE) {
                    least += leastOfPieceFrom(x, i);
                }
            }
            Check.isTrue("run " + run + ": the least of all rows is " + least, x.total(0) == least);
        }
    }

    @Sentence(of = Sentence.WHAT_IT_IS, says = "with pointers back;")
    static void bestGoesByPointersBack() {
        for (int run = 0; run < RUNS; run++) {
            Random chance = new Random(run);
            RoadTrace x = chanceNet(chance);
            for (int i = 0; i < 16; i++) {
                chanceFix(x, chance);
            }
            for (int i = 0; i < 16; i++) {
                int before = beforeInPiece(x, i);
                if (x.piece(i) == NONE || before == NONE) {
                    continue;
                }
                int back = x.candidate(i, numberOf(x, i, x.best(i)), 3);
                Check.isTrue("run " + run + ": back from fix " + i, x.candidate(before, back, 0) == x.best(before));
            }
        }
    }

    @Sentence(of = Sentence.WHAT_IT_IS, says = "where nothing is near a fix is left out, where no way leads on it is "
        + "begun anew;")
    static void leftOutOrBegunAnew() {
        for (int run = 0; run < RUNS; run++) {
            Random chance = new Random(run);
            RoadTrace x = chanceNet(chance);
            boolean[] left = new boolean[20];
            int before = NONE;
            int pieces = 0;
            for (int i = 0; i < 16; i++) {
                chanceFix(x, chance);
                int count = x.candidate(i, -1, 0);
                if (count == 0) {
                    Check.isTrue("run " + run + ": fix " + i + " is left out", x.piece(i) == NONE);
                    continue;
                }
                boolean[] here = reached(x, before, left, i);
                boolean leadsOn = false;
                for (boolean one : here) {
                    leadsOn = leadsOn || one;
                }
                if (!leadsOn) {
                    pieces++;
                    Arrays.fill(here, 0, count, true);
                }
                Check.isTrue("run " + run + ": the piece of fix " + i, x.piece(i) == pieces - 1);
                for (int k = 0; k < count; k++) {
                    Check.isTrue("run " + run + ": dead or not, fix " + i, here[k] == (x.candidate(i, k, 2) != NONE));
                }
                left = here;
                before = i;
            }
            Check.isTrue("run " + run + ": pieces", x.total(1) == pieces);
        }
    }

    /** The candidates of a fix to which a possible step leads from one that is left of the fix before. */
    private static boolean[] reached(RoadTrace x, int before, boolean[] left, int fix) {
        boolean[] here = new boolean[20];
        for (int k = 0; before != NONE && k < x.candidate(fix, -1, 0); k++) {
            for (int b = 0; b < x.candidate(before, -1, 0); b++) {
                int step = stepCost(x, before, x.candidate(before, b, 0), fix, x.candidate(fix, k, 0));
                here[k] = here[k] || left[b] && step != FAR;
            }
        }
        return here;
    }

    @Sentence(of = Sentence.WHAT_IT_IS, says = "what all ways that are still left have in common is decided,")
    static void whatAllWaysHaveInCommonIsDecided() {
        for (int run = 0; run < RUNS; run++) {
            Random chance = new Random(run);
            RoadTrace x = chanceNet(chance);
            for (int i = 0; i < 12; i++) {
                chanceFix(x, chance);
                int decided = 0;
                for (int fix = 0; fix <= i; fix++) {
                    int common = common(x, fix);
                    decided += common == NONE ? 0 : 1;
                    Check.isTrue("run " + run + ": fix " + fix + " of " + i, x.decided(fix) == common);
                }
                Check.isTrue("run " + run + ": how many of " + i, x.total(3) == decided);
            }
        }
    }

    /** The spot of a fix that all ways of its piece that are left have in common, or NONE. */
    private static int common(RoadTrace x, int fix) {
        int piece = x.piece(fix);
        if (piece == NONE || piece < x.total(1) - 1) {
            return piece == NONE ? NONE : x.best(fix);
        }
        int last = x.told(2) - 1;
        while (x.piece(last) == NONE) {
            last--;
        }
        Set<Integer> spots = new TreeSet<>();
        for (int k = 0; k < x.candidate(last, -1, 0); k++) {
            if (x.candidate(last, k, 2) == NONE) {
                continue;
            }
            int number = k;
            for (int at = last; at != fix; at = beforeInPiece(x, at)) {
                number = x.candidate(at, number, 3);
            }
            spots.add(x.candidate(fix, number, 0));
        }
        return spots.size() == 1 ? spots.iterator().next() : NONE;
    }

    @Sentence(of = Sentence.WHAT_IT_IS, says = "and stays as it is, whatever comes;")
    static void whatIsDecidedStaysWhateverComes() {
        int stayed = 0;
        for (int run = 0; run < RUNS; run++) {
            Random chance = new Random(run);
            RoadTrace x = chanceNet(chance);
            int[] decided = new int[16];
            Arrays.fill(decided, NONE);
            for (int i = 0; i < 16; i++) {
                chanceFix(x, chance);
                for (int fix = 0; fix <= i; fix++) {
                    boolean was = decided[fix] != NONE;
                    stayed += was ? 1 : 0;
                    Check.isTrue("run " + run + ": decided " + fix, !was || x.decided(fix) == decided[fix]);
                    Check.isTrue("run " + run + ": best " + fix, !was || x.best(fix) == decided[fix]);
                    decided[fix] = x.decided(fix);
                }
            }
        }
        Check.isTrue("enough was decided before the last fix: " + stayed, stayed > RUNS);
    }

    @Sentence(of = Sentence.WHAT_IT_IS, says = "the crossings on the way are told;")
    static void theCrossingsOnTheWayMakeUpItsLength() {
        for (int run = 0; run < RUNS; run++) {
            Random chance = new Random(run);
            RoadTrace x = chanceNet(chance);
            // long ways are possible too
            x.rule(3, 99);
            for (int i = 0; i < 16; i++) {
                chanceFix(x, chance);
            }
            for (int i = 0; i < 16; i++) {
                if (x.step(i) == NONE) {
                    Check.isTrue("run " + run + ": no way, no crossing", x.through(i, 0) == NONE);
                    continue;
                }
                int from = x.best(beforeInPiece(x, i));
                Check.isTrue("run " + run + ": by its crossings the way to fix " + i + " is as long",
                    lengthByCrossings(x, i, from, x.best(i)) == x.step(i));
            }
        }
    }

    private static int lengthByCrossings(RoadTrace x, int fix, int from, int to) {
        int at = x.through(fix, 0);
        if (at == NONE) {
            return from / 100 == to / 100 ? Math.abs(from - to) : FAR;
        }
        int length = x.way(from, spotAt(x, from, at));
        int met = 1;
        for (int next = x.through(fix, met); next != NONE; next = x.through(fix, met)) {
            length += x.between(at, next);
            at = next;
            met++;
        }
        return met > 9 ? FAR : length + x.way(spotAt(x, to, at), to);
    }

    /** The spot of the road of a spot at which a crossing lies: its first or its last one. */
    private static int spotAt(RoadTrace x, int spot, int crossing) {
        int road = spot / 100;
        int told = x.told(200 + road);
        int first = x.told(100 + told / 1000);
        int last = x.told(100 + told / 10 % 100);
        int length = Math.abs(first / 100 - last / 100) + Math.abs(first % 100 - last % 100);
        Check.isTrue("crossing " + crossing + " is an end of road " + road,
            told / 1000 == crossing || told / 10 % 100 == crossing);
        return 100 * road + (told / 1000 == crossing ? 0 : length);
    }

    @Sentence(of = Sentence.WHAT_IT_IS, says = "images.")
    static void imagesOfChanceTraces() {
        for (int run = 0; run < RUNS; run += 10) {
            Random chance = new Random(run);
            RoadTrace x = chanceNet(chance);
            String net = Seen.all(x);
            x.image(0);
            for (int i = 0; i < 12; i++) {
                chanceFix(x, chance);
            }
            String trace = Seen.all(x);
            x.image(1);
            x.restore(0);
            Check.isTrue("run " + run + ": the net alone", net.equals(Seen.all(x)));
            x.restore(1);
            Check.isTrue("run " + run + ": the fixes too", trace.equals(Seen.all(x)));
        }
    }

    @Sentence(of = Sentence.WHAT_IT_IS, says = "An object is used for at most 512 calls after it has been made; what "
        + "later calls answer is free.")
    static void allCallsUpToTheLastAreAnswered() {
        // three calls make the net
        RoadTrace x = Nets.oneRoad();
        for (int call = 4; call < CALLS; call += 2) {
            Check.isTrue("call " + call, x.fix(15, 20 + call % 4) == 1);
            Check.isTrue("call " + (call + 1), x.drop() == 0);
        }
        Check.due("call " + CALLS, x.fix(15, 20), 1);
    }

    // ---- The public face

    @Sentence(of = Sentence.FACE, says = {"public final class RoadTrace {",
        "public static final int NONE = -6, UNKNOWN = -1, OUTSIDE = -2, STATE = -3, FULL = -4, NO = -5;",
        "public RoadTrace();"})
    static void theClassItsConstantsAndItsConstructor() throws ReflectiveOperationException {
        Check.isTrue("public final", (RoadTrace.class.getModifiers() & (Modifier.PUBLIC | Modifier.FINAL))
            == (Modifier.PUBLIC | Modifier.FINAL));
        Set<String> got = new TreeSet<>();
        for (Field f : RoadTrace.class.getFields()) {
            got.add(Modifier.toString(f.getModifiers()) + " " + f.getType() + " " + f.getName() + " = " + f.getInt(null));
        }
        Set<String> want = new TreeSet<>();
        for (String constant : "NONE = -6, UNKNOWN = -1, OUTSIDE = -2, STATE = -3, FULL = -4, NO = -5".split(", ")) {
            want.add("public static final int " + constant);
        }
        Check.isTrue("the constants are " + got, got.equals(want));
        Check.due("public constructors", RoadTrace.class.getConstructors().length, 1);
        Check.due("its parameters", RoadTrace.class.getConstructors()[0].getParameterCount(), 0);
    }

    @Sentence(of = Sentence.FACE, says = {"public int crossing(int x, int y);",
        "public int road(int first, int last, int way);", "public int rule(int what, int n);",
        "public int cell(int x, int y);", "public int between(int one, int other);",
        "public int way(int one, int other);", "public int fix(int x, int y);", "public int drop();",
        "public int candidate(int fix, int k, int what);", "public int best(int fix);", "public int decided(int fix);",
        "public int piece(int fix);", "public int step(int fix);", "public int through(int fix, int k);",
        "public int total(int what);", "public int image(int n);", "public int restore(int n);",
        "public int told(int what);"})
    static void theMethods() throws ReflectiveOperationException {
        Set<String> want = new TreeSet<>();
        Method here = WholeBoundaries.class.getDeclaredMethod("theMethods");
        for (String line : here.getAnnotation(Sentence.class).says()) {
            want.add(line.replaceAll("int \\w+([,)])", "int$1"));
        }
        Set<String> got = new TreeSet<>();
        for (Method m : RoadTrace.class.getDeclaredMethods()) {
            if (!Modifier.isPrivate(m.getModifiers())) {
                got.add(m.toString().replace("RoadTrace.", "").replace(",", ", ") + ";");
            }
        }
        Check.isTrue("the methods are " + got, got.equals(want));
    }
}
