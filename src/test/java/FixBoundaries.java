/** Fixes and their candidates: what 'Terms' 2 says of them, and the promises 8 to 10. */
final class FixBoundaries {
    private static final int NONE = RoadTrace.NONE;
    private static final int UNKNOWN = RoadTrace.UNKNOWN;
    private static final int OUTSIDE = RoadTrace.OUTSIDE;
    private static final int FULL = RoadTrace.FULL;
    private static final int NO = RoadTrace.NO;
    private static final int[] FAR_OFF = {Integer.MIN_VALUE, Integer.MIN_VALUE + 1, -65536, -64, 65536, 1 << 24,
        Integer.MAX_VALUE - 1, Integer.MAX_VALUE};

    private FixBoundaries() {
    }

    // ---- Terms 2

    @Sentence(of = 0, says = "FIXES (16 at most)")
    static void sixteenFixesAtMost() {
        RoadTrace x = Nets.oneRoad();
        Nets.manyFixes(x, 15, 15, 20);
        Check.due("the 16th", x.fix(15, 20), 16);
        Check.due("it is known", x.best(15), 5);
        Check.due("the 17th", x.fix(15, 20), FULL);
        Check.due("it is not known", x.best(16), UNKNOWN);
    }

    @Sentence(of = 0, says = "lie at X and Y, 0 to 63 each.")
    static void fixesLieWithinTheirBounds() {
        RoadTrace x = new RoadTrace();
        Check.due("both least", x.fix(0, 0), 1);
        Check.due("x greatest", x.fix(63, 0), 2);
        Check.due("y greatest", x.fix(0, 63), 3);
        Check.due("both greatest", x.fix(63, 63), 4);
        Check.due("x one too great", x.fix(64, 5), OUTSIDE);
        Check.due("y one too great", x.fix(5, 64), OUTSIDE);
        Check.due("x one too little", x.fix(-1, 5), OUTSIDE);
        Check.due("y one too little", x.fix(5, -1), OUTSIDE);
        int[] places = {0, 6300, 63, 6363};
        for (int i = 0; i < 4; i++) {
            Check.due("where fix " + i + " lies", x.told(300 + i), places[i]);
        }
    }

    @Sentence(of = 0, says = "APART: of two places, by X and by Y, added.")
    static void apartByXAndByY() {
        RoadTrace x = Nets.oneRoad();
        x.rule(0, 8);
        int[][] fixes = {{15, 20, 0}, {15, 12, 8}, {15, 28, 8}, {7, 20, 3}, {23, 20, 3}, {7, 17, 6}, {23, 25, 8}};
        for (int[] f : fixes) {
            x.fix(f[0], f[1]);
            Check.due("apart of (" + f[0] + ", " + f[1] + ")", x.candidate(0, 0, 1), f[2]);
            x.drop();
        }
        // of two fixes: straight on is 3 and 4, the way but 3
        x.rule(0, 4);
        x.fix(13, 20);
        x.fix(16, 24);
        Check.due("apart of two fixes", x.candidate(1, 0, 2), 4 + 4);
        x.drop();
        x.fix(10, 16);
        Check.due("apart of two fixes the other way", x.candidate(1, 0, 2), 4 + 4);
    }

    @Sentence(of = 0, says = "CANDIDATES of a FIX: for each ROAD, rising,")
    static void candidatesForEachRoadRising() {
        RoadTrace x = Nets.fullRow();
        x.rule(0, 8);
        x.fix(3, 7);
        Check.due("one for each of all roads", x.candidate(0, -1, 0), 20);
        for (int k = 0; k < 20; k++) {
            Check.due("the road of candidate " + k, x.candidate(0, k, 0) / 100, k);
        }
        RoadTrace some = Nets.square();
        some.fix(1, 8);
        Check.due("two are near", some.candidate(0, -1, 0), 2);
        Check.due("the lesser road, though it is not the nearer one", some.candidate(0, 0, 0), 209);
        Check.due("the next one", some.candidate(0, 1, 0), 302);
    }

    @Sentence(of = 0, says = "the SPOT on it that is the least APART from the FIX,")
    static void theNearestSpot() {
        int[][] fixes = {{10, 20, 0}, {20, 20, 10}, {11, 23, 1}, {19, 17, 9}, {9, 20, 0}, {21, 20, 10}, {8, 22, 0},
            {22, 18, 10}};
        for (int[] f : fixes) {
            RoadTrace x = Nets.oneRoad();
            x.fix(f[0], f[1]);
            Check.due("on, at (" + f[0] + ", " + f[1] + ")", x.candidate(0, 0, 0), f[2]);
            RoadTrace back = new RoadTrace();
            back.crossing(20, 10);
            back.crossing(20, 20);
            back.road(1, 0, 1);
            back.fix(f[1], f[0]);
            Check.due("back, at (" + f[1] + ", " + f[0] + ")", back.candidate(0, 0, 0), 10 - f[2]);
        }
    }

    @Sentence(of = 0, says = "if that is no more than REACH.")
    static void noMoreThanReach() {
        for (int reach = 0; reach <= 8; reach++) {
            RoadTrace x = Nets.oneRoad();
            x.rule(0, reach);
            int[][] just = {{15, 20 + reach}, {15, 20 - reach}, {10 - reach, 20}, {20 + reach, 20}};
            for (int[] place : just) {
                x.fix(place[0], place[1]);
                Check.due("just in reach " + reach, x.candidate(0, -1, 0), 1);
                Check.due("apart", x.candidate(0, 0, 1), reach);
                x.drop();
            }
            int[][] past = {{15, 21 + reach}, {15, 19 - reach}, {9 - reach, 20}, {21 + reach, 20}, {20 + reach, 21}};
            for (int[] place : past) {
                x.fix(place[0], place[1]);
                Check.due("just out of reach " + reach, x.candidate(0, -1, 0), 0);
                x.drop();
            }
        }
    }

    /** Roads are found by cells; a road in reach of the fix may be in another cell than the fix. */
    @Sentence(of = 0, says = "CANDIDATES of a FIX: for each ROAD, rising, the SPOT on it that is the least APART "
        + "from the FIX, "
        + "if that is no more than REACH.")
    static void roadsOfOtherCellsAreNearToo() {
        int[][] roadsAndFixes = {{8, 8, 9, 8, 7, 7, 2}, {8, 8, 9, 8, 8, 0, 8}, {7, 7, 6, 7, 15, 7, 8},
            {7, 7, 7, 6, 11, 11, 8}, {63, 63, 62, 63, 58, 60, 7}, {55, 63, 54, 63, 63, 63, 8}, {0, 8, 0, 9, 0, 0, 8},
            {56, 0, 56, 5, 63, 6, 8}, {8, 16, 9, 16, 7, 24, 9}, {63, 63, 62, 63, 57, 60, 8}};
        for (int[] r : roadsAndFixes) {
            RoadTrace x = new RoadTrace();
            x.crossing(r[0], r[1]);
            x.crossing(r[2], r[3]);
            x.road(0, 1, 0);
            x.rule(0, 8);
            x.fix(r[4], r[5]);
            String what = "(" + r[4] + ", " + r[5] + ") from (" + r[0] + ", " + r[1] + ")";
            Check.due("near: " + what, x.candidate(0, -1, 0), r[6] <= 8 ? 1 : 0);
            Check.due("apart: " + what, x.candidate(0, 0, 1), r[6] <= 8 ? r[6] : NONE);
        }
    }

    // ---- 8 fix

    @Sentence(of = 8, says = "A FIX comes: how many there are.")
    static void fixesAreCounted() {
        RoadTrace x = Nets.square();
        for (int i = 1; i <= 16; i++) {
            Check.due("fix " + i, x.fix(i % 2 == 0 ? 5 : 40, 5), i);
            Check.due("fixes", x.told(2), i);
        }
        RoadTrace none = new RoadTrace();
        Check.due("without a net", none.fix(3, 3), 1);
        Check.due("at the same place", none.fix(3, 3), 2);
    }

    @Sentence(of = 8, says = "OUTSIDE;")
    static void aFixOutside() {
        RoadTrace x = Nets.oneRoad();
        for (int n : FAR_OFF) {
            Check.due("x " + n, x.fix(n, 20), OUTSIDE);
            Check.due("y " + n, x.fix(15, n), OUTSIDE);
        }
        Check.due("x -1", x.fix(-1, 20), OUTSIDE);
        Check.due("x 64", x.fix(64, 20), OUTSIDE);
        Check.due("y -1", x.fix(15, -1), OUTSIDE);
        Check.due("y 64", x.fix(15, 64), OUTSIDE);
        Check.due("fixes", x.told(2), 0);
        Nets.manyFixes(x, 16, 15, 20);
        Check.due("OUTSIDE before FULL", x.fix(64, 64), OUTSIDE);
    }

    @Sentence(of = 8, says = "FULL.")
    static void noFixComesPastTheSixteenth() {
        RoadTrace x = Nets.oneRoad();
        Nets.manyFixes(x, 16, 15, 20);
        Check.due("the 17th", x.fix(63, 63), FULL);
        Check.due("the last one is as it was", x.told(315), 1520);
        Check.due("gaps", x.total(2), 0);
        x.drop();
        Check.due("room for one again", x.fix(63, 63), 16);
        Check.due("and for no more", x.fix(63, 63), FULL);
    }

    // ---- 9 drop

    @Sentence(of = 9, says = "The last FIX goes: how many there are.")
    static void theLastFixGoes() {
        RoadTrace x = Nets.sideBySide();
        for (int i = 0; i < 16; i++) {
            x.fix(i, i % 5);
        }
        for (int left = 15; left >= 0; left--) {
            Check.due("one goes", x.drop(), left);
            Check.due("fixes", x.told(2), left);
            Check.due("it is not known", x.piece(left), UNKNOWN);
            Check.due("it is not told", x.told(300 + left), OUTSIDE);
        }
    }

    @Sentence(of = 9, says = "The last FIX goes")
    static void allIsAsBeforeTheLastFix() {
        RoadTrace x = Nets.square();
        x.rule(3, 5);
        String[] seen = new String[16];
        for (int i = 0; i < 16; i++) {
            seen[i] = Seen.all(x);
            x.fix(i * 7 % 13, i * 5 % 14);
        }
        Check.isTrue("there is more than one piece", x.total(1) > 1);
        for (int i = 15; i >= 0; i--) {
            x.drop();
            Check.isTrue("as before fix " + i, seen[i].equals(Seen.all(x)));
        }
    }

    @Sentence(of = 9, says = "The last FIX goes")
    static void aFixInsteadOfTheLastOne() {
        RoadTrace x = Nets.sideBySide();
        x.fix(5, 2);
        x.fix(9, 4);
        x.drop();
        x.fix(40, 40);
        Check.due("a gap in its stead", x.piece(1), NONE);
        Check.due("it has no candidates", x.candidate(1, 0, 0), NONE);
        x.drop();
        x.fix(9, 0);
        Check.due("near again", x.best(1), 9);
        Check.due("how many", x.candidate(1, -1, 0), 2);
        Check.due("it goes on", x.step(1), 4);
    }

    @Sentence(of = 9, says = "NO: there is none.")
    static void noFixToDrop() {
        RoadTrace x = new RoadTrace();
        Check.due("a new object", x.drop(), NO);
        x.fix(0, 0);
        Check.due("the only one", x.drop(), 0);
        Check.due("none is left", x.drop(), NO);
        Check.due("and none again", x.drop(), NO);
        Check.due("fixes", x.told(2), 0);
        Check.due("the next one is the first", x.fix(0, 0), 1);
    }

    // ---- 10 candidate

    @Sentence(of = 10, says = "How many CANDIDATES a FIX has (k = -1),")
    static void howManyCandidates() {
        RoadTrace x = Nets.fullRow();
        x.rule(0, 0);
        x.fix(0, 7);
        x.fix(11, 7);
        x.fix(12, 7);
        Check.due("the roads from crossing 0", x.candidate(0, -1, 0), 11);
        Check.due("but one", x.candidate(1, -1, 0), 1);
        Check.due("none: a gap", x.candidate(2, -1, 0), 0);
        for (int what = 0; what < 4; what++) {
            Check.due("whatever is asked of it", x.candidate(0, -1, what), 11);
        }
    }

    @Sentence(of = 10, says = "of the k-th the SPOT (what = 0), how far it is APART (1), COST (2;")
    static void whatIsToldOfACandidate() {
        RoadTrace x = Nets.square();
        x.rule(1, 9);
        x.rule(2, 9);
        x.fix(2, 1);
        x.fix(7, 2);
        int[][] want = {{2, 1, 9, NONE}, {309, 2, 18, NONE}, {7, 2, 9 + 9 + 18, 0}, {102, 3, 9 + 36 + 27, 0}};
        for (int i = 0; i < 4; i++) {
            for (int what = 0; what < 4; what++) {
                Check.due("fix " + i / 2 + ", candidate " + i % 2 + ", what " + what,
                    x.candidate(i / 2, i % 2, what), want[i][what]);
            }
        }
    }

    @Sentence(of = 10, says = "COST (2; NONE: it is DEAD),")
    static void theCostOfADeadOne() {
        RoadTrace x = Nets.sideBySide();
        x.fix(5, 6);
        x.fix(9, 2);
        Check.due("but one before", x.candidate(0, -1, 0), 1);
        Check.due("dead", x.candidate(1, 0, 2), NONE);
        Check.due("not dead", x.candidate(1, 1, 2), 2 + 4 + 2);
        Check.due("the spot of the dead one", x.candidate(1, 0, 0), 9);
        Check.due("apart of the dead one", x.candidate(1, 0, 1), 2);
        RoadTrace nought = Nets.oneRoad();
        nought.fix(15, 20);
        Check.due("a cost of 0 is none", nought.candidate(0, 0, 2), 0);
    }

    @Sentence(of = 10, says = "BACK (3: the number of the CANDIDATE; NONE);")
    static void theBackOfACandidate() {
        RoadTrace x = Nets.sideBySide();
        x.fix(5, 2);
        x.fix(9, 2);
        x.fix(13, 5);
        Check.due("it begins a piece", x.candidate(0, 0, 3), NONE);
        Check.due("from the first", x.candidate(1, 0, 3), 0);
        Check.due("from the second", x.candidate(1, 1, 3), 1);
        Check.due("its number, though it is the only one here", x.candidate(2, 0, 3), 1);
        x.drop();
        x.drop();
        x.drop();
        x.fix(5, 6);
        x.fix(9, 2);
        Check.due("it is dead", x.candidate(1, 0, 3), NONE);
        Check.due("of the only one before", x.candidate(1, 1, 3), 0);
    }

    /** The only candidate there is of road 10, but its number is 0. */
    @Sentence(of = 10, says = "BACK (3: the number of the CANDIDATE;")
    static void backIsANumberAndNoRoad() {
        RoadTrace x = Nets.fullRow();
        x.rule(0, 0);
        x.fix(11, 7);
        x.fix(1, 7);
        Check.due("the only one there", x.candidate(0, 0, 0), 1011);
        Check.due("here are all", x.candidate(1, -1, 0), 20);
        for (int k = 0; k < 20; k++) {
            Check.due("back of " + k, x.candidate(1, k, 3), 0);
        }
    }

    @Sentence(of = 10, says = "NONE: there is no such one.")
    static void noSuchCandidate() {
        RoadTrace x = Nets.fullRow();
        x.rule(0, 8);
        x.fix(3, 7);
        x.fix(60, 60);
        for (int what = 0; what < 4; what++) {
            Check.due("past the last of all", x.candidate(0, 20, what), NONE);
            Check.due("the first of a gap", x.candidate(1, 0, what), NONE);
            Check.due("minus two", x.candidate(0, -2, what), NONE);
            for (int n : FAR_OFF) {
                Check.due("k " + n, x.candidate(0, n, what), NONE);
            }
        }
        Check.due("the last of all", x.candidate(0, 19, 0), 1902);
        x.drop();
        x.drop();
        x.rule(0, 0);
        x.fix(11, 7);
        Check.due("past the only one", x.candidate(0, 1, 0), NONE);
    }

    @Sentence(of = 10, says = "UNKNOWN;")
    static void candidatesOfNoFix() {
        RoadTrace x = Nets.square();
        Check.due("no fix", x.candidate(0, 0, 0), UNKNOWN);
        Check.due("no fix, how many", x.candidate(0, -1, 0), UNKNOWN);
        x.fix(2, 1);
        Check.due("the only fix", x.candidate(0, 0, 0), 2);
        for (int n : new int[] {-1, 1, 15, 16, Integer.MIN_VALUE, Integer.MAX_VALUE}) {
            Check.due("fix " + n, x.candidate(n, 0, 0), UNKNOWN);
            Check.due("fix " + n + ", how many", x.candidate(n, -1, 0), UNKNOWN);
            Check.due("fix " + n + ", what 4", x.candidate(n, 0, 4), UNKNOWN);
        }
        Nets.manyFixes(x, 15, 2, 1);
        Check.due("the last fix of all", x.candidate(15, -1, 0), 2);
        Check.due("past the last fix of all", x.candidate(16, -1, 0), UNKNOWN);
    }

    @Sentence(of = 10, says = "OUTSIDE: what.")
    static void candidatesOutside() {
        RoadTrace x = Nets.square();
        x.fix(2, 1);
        x.fix(50, 50);
        Check.due("what 3", x.candidate(0, 0, 3), NONE);
        for (int n : new int[] {-1, 4, 5, 100, Integer.MIN_VALUE, Integer.MAX_VALUE}) {
            Check.due("what " + n, x.candidate(0, 0, n), OUTSIDE);
            Check.due("what " + n + ", though there is no such one", x.candidate(0, 7, n), OUTSIDE);
            Check.due("what " + n + ", of a gap", x.candidate(1, 0, n), OUTSIDE);
            Check.due("what " + n + ", how many", x.candidate(0, -1, n), OUTSIDE);
            Check.due("what " + n + ", how many of a gap", x.candidate(1, -1, n), OUTSIDE);
            Check.due("what " + n + ", k -2", x.candidate(0, -2, n), OUTSIDE);
            Check.due("what " + n + ", k far off", x.candidate(0, Integer.MIN_VALUE, n), OUTSIDE);
        }
    }
}
