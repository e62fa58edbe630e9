/** What is least: 'Terms' 3 and the promises 11 to 16. */
final class LeastBoundaries {
    private static final int NONE = RoadTrace.NONE;
    private static final int UNKNOWN = RoadTrace.UNKNOWN;
    private static final int OUTSIDE = RoadTrace.OUTSIDE;
    private static final int[] NO_FIX = {-1, 3, 15, 16, 17, Integer.MIN_VALUE, Integer.MIN_VALUE + 1,
        Integer.MAX_VALUE};

    private LeastBoundaries() {
    }

    private static void totals(String what, RoadTrace x, int... want) {
        for (int i = 0; i < want.length; i++) {
            Check.due(what + ", total(" + i + ")", x.total(i), want[i]);
        }
    }

    // ---- Terms 3: GAPS and PIECES

    @Sentence(of = 0, says = "A FIX without CANDIDATES is a GAP: left out.")
    static void aGapIsLeftOut() {
        RoadTrace x = Nets.oneRoad();
        x.fix(15, 24);
        x.fix(15, 25);
        Check.due("just in reach: no gap", x.piece(0), 0);
        Check.due("just out of reach: a gap", x.piece(1), NONE);
        Check.due("best", x.best(1), NONE);
        Check.due("decided", x.decided(1), NONE);
        Check.due("step", x.step(1), NONE);
        Check.due("through", x.through(1, 0), NONE);
        totals("one gap", x, 4, 1, 1, 1, 0);
        RoadTrace none = new RoadTrace();
        none.fix(0, 0);
        Check.due("without roads each is a gap", none.piece(0), NONE);
    }

    @Sentence(of = 0, says = "The first one that is none begins a PIECE.")
    static void theFirstThatIsNoGapBeginsAPiece() {
        RoadTrace x = Nets.oneRoad();
        Nets.manyFixes(x, 15, 50, 50);
        Check.due("gaps alone have no piece", x.total(1), 0);
        x.fix(15, 22);
        Check.due("the last of all fixes begins one", x.piece(15), 0);
        Check.due("its cost", x.candidate(15, 0, 2), 2);
        Check.due("its back", x.candidate(15, 0, 3), NONE);
        Check.due("its step", x.step(15), NONE);
        totals("fifteen gaps and a piece", x, 2, 1, 15, 1, 0);
    }

    @Sentence(of = 0, says = "The first one that is none begins a PIECE.")
    static void theLastOfAllFixesNearAllRoadsBeginsAPiece() {
        RoadTrace x = Nets.fullRow();
        x.rule(0, 8);
        Nets.manyFixes(x, 15, 60, 60);
        x.fix(5, 7);
        Check.due("its piece", x.piece(15), 0);
        Check.due("its candidates", x.candidate(15, -1, 0), 20);
        for (int k = 0; k < 20; k++) {
            Check.due("the cost of candidate " + k, x.candidate(15, k, 2), x.candidate(15, k, 1));
        }
        Check.due("the first road that leads there", x.best(15), 405);
    }

    @Sentence(of = 0, says = "Each next one goes on from the one before (GAPS left out):")
    static void gapsAreLeftOutOnTheWay() {
        RoadTrace x = Nets.oneRoad();
        x.fix(12, 20);
        Nets.manyFixes(x, 14, 60, 60);
        x.fix(18, 20);
        Check.due("it goes on over fourteen gaps", x.piece(15), 0);
        Check.due("its step", x.step(15), 6);
        // straight on is from the fix before, not from the gap
        Check.due("its cost", x.candidate(15, 0, 2), 0);
        Check.due("its back", x.candidate(15, 0, 3), 0);
        totals("fourteen gaps within", x, 0, 1, 14, 2, 6);
    }

    @Sentence(of = 0, says = "a step from a CANDIDATE there to one here is possible, if there is a WAY,")
    static void noStepWithoutAWay() {
        RoadTrace x = Nets.sideBySide();
        x.rule(0, 0);
        x.rule(3, 99);
        x.fix(10, 0);
        x.fix(10, 4);
        Check.due("no way: another piece", x.piece(1), 1);
        x.fix(10, 0);
        Check.due("no way back: another piece", x.piece(2), 2);
        RoadTrace one = new RoadTrace();
        one.crossing(0, 0);
        one.crossing(20, 0);
        one.road(0, 1, 1);
        one.fix(9, 0);
        one.fix(9, 0);
        Check.due("to the same spot there is a way", one.piece(1), 0);
        one.fix(8, 0);
        Check.due("one back there is none", one.piece(2), 1);
    }

    /** Straight on is 3, the way 4. */
    private static RoadTrace roundTheCorner(int slack) {
        RoadTrace x = Nets.square();
        x.rule(0, 1);
        x.rule(3, slack);
        x.fix(8, 0);
        x.fix(9, 2);
        return x;
    }

    @Sentence(of = 0, says = "no longer than APART of both FIXES, and SLACK;")
    static void theLeastSlack() {
        RoadTrace none = roundTheCorner(0);
        Check.due("longer by one, slack 0", none.piece(1), 1);
        RoadTrace one = roundTheCorner(1);
        Check.due("longer by one, slack 1", one.piece(1), 0);
        Check.due("its step", one.step(1), 4);
        RoadTrace straight = Nets.oneRoad();
        straight.rule(3, 0);
        straight.fix(12, 20);
        straight.fix(18, 20);
        Check.due("just as long, slack 0", straight.piece(1), 0);
        straight.fix(15, 22);
        Check.due("shorter, slack 0", straight.piece(2), 0);
    }

    @Sentence(of = 0, says = "no longer than APART of both FIXES, and SLACK;")
    static void theGreatestSlack() {
        RoadTrace x = Nets.oneWayRound(26);
        x.rule(0, 1);
        x.rule(3, 99);
        x.fix(10, 0);
        x.fix(8, 0);
        Check.due("longer by 100", x.piece(1), 1);
        x.drop();
        x.fix(8, 1);
        Check.due("longer by 99", x.piece(1), 0);
        Check.due("its step", x.step(1), 102);
        Nets.dropAll(x);
        x.rule(3, 98);
        x.fix(10, 0);
        x.fix(8, 1);
        Check.due("longer by 99, slack 98", x.piece(1), 1);
    }

    @Sentence(of = 0, says = "it costs MORE times how far LENGTH is from APART.")
    static void whatAStepCosts() {
        for (int more : new int[] {0, 1, 9}) {
            RoadTrace x = Nets.square();
            x.rule(0, 1);
            x.rule(1, 0);
            x.rule(2, more);
            x.fix(8, 0);
            x.fix(9, 2);
            Check.due("longer by one, more " + more, x.candidate(1, 0, 2), more);
            Nets.dropAll(x);
            x.fix(4, 0);
            x.fix(6, 0);
            Check.due("just as long, more " + more, x.candidate(1, 0, 2), 0);
            x.fix(5, 1);
            Check.due("shorter by one, more " + more, x.candidate(2, 0, 2), more);
        }
    }

    // ---- Terms 3: COST, BACK, DEAD

    @Sentence(of = 0, says = "COST of a CANDIDATE: OFF times how far it is APART from its FIX,")
    static void whatLyingOffCosts() {
        for (int off : new int[] {0, 1, 9}) {
            RoadTrace x = Nets.oneRoad();
            x.rule(0, 8);
            x.rule(1, off);
            x.fix(15, 28);
            Check.due("eight off, off " + off, x.candidate(0, 0, 2), 8 * off);
            x.drop();
            x.fix(15, 20);
            Check.due("not off, off " + off, x.candidate(0, 0, 2), 0);
        }
    }

    @Sentence(of = 0, says = "and, if it does not begin a PIECE, the least of COSTS there and steps here together;")
    static void theLeastOfCostsAndSteps() {
        RoadTrace x = joined();
        x.fix(10, 1);
        x.fix(20, 3);
        Check.due("there: the nearer road", x.candidate(0, 0, 2), 1);
        Check.due("there: the farther road", x.candidate(0, 1, 2), 3);
        // straight on is 12: over crossing 1 the way is 13 from the one, 11 from the other one
        Check.due("on the road between", x.candidate(1, 2, 0), 203);
        Check.due("the cheaper one with the same step", x.candidate(1, 2, 2), 1 + 1);
        Check.due("its back", x.candidate(1, 2, 3), 0);
        // along the upper road alone the way is 10, and 14 from the lower one
        Check.due("on the upper road", x.candidate(1, 1, 0), 120);
        Check.due("the cheaper one with the same step", x.candidate(1, 1, 2), 1 + 2 + 1);
        Check.due("the dearer one with a lesser step", cheaperStep(), 1);
    }

    /** Road 0 and road 1 side by side, and at their end road 2 from the one to the other one. */
    private static RoadTrace joined() {
        RoadTrace x = Nets.sideBySide();
        x.road(1, 3, 0);
        return x;
    }

    /** The back of a fix that lies on road 1, where the one before was nearer to road 0. */
    private static int cheaperStep() {
        RoadTrace x = joined();
        x.rule(2, 9);
        x.fix(10, 1);
        x.fix(13, 4);
        return x.candidate(1, 1, 3);
    }

    @Sentence(of = 0, says = "the least of COSTS there and steps here together;")
    static void theGreatestCosts() {
        RoadTrace x = Nets.oneWayRound(26);
        x.rule(0, 1);
        x.rule(1, 9);
        x.rule(2, 9);
        x.rule(3, 99);
        for (int i = 0; i < 12; i++) {
            x.fix(24 - 2 * i, i % 2);
            Check.due("it goes on", x.piece(i), 0);
            Check.due("its cost", x.candidate(i, 0, 2), i * 9 * 99 + (i + 1) / 2 * 9);
        }
        totals("all together", x, 11 * 9 * 99 + 6 * 9, 1, 0, 12, 11 * 102);
    }

    @Sentence(of = 0, says = "BACK: from which (of as little the least ROAD).")
    static void backOfAsLittleTheLeastRoad() {
        RoadTrace x = joined();
        x.fix(10, 2);
        x.fix(20, 2);
        Check.due("on the road between", x.candidate(1, 2, 0), 202);
        Check.due("as little from both", x.candidate(1, 2, 2), 2 + 2);
        Check.due("the least road", x.candidate(1, 2, 3), 0);
        x.drop();
        x.drop();
        x.fix(10, 3);
        x.fix(20, 2);
        Check.due("the second, as it is cheaper", x.candidate(1, 2, 3), 1);
    }

    @Sentence(of = 0, says = "One to which no step is possible is DEAD.")
    static void deadWhereNoStepLeads() {
        RoadTrace x = Nets.sideBySide();
        x.fix(5, 6);
        x.fix(9, 2);
        Check.due("dead, as there is no way", x.candidate(1, 0, 2), NONE);
        RoadTrace far = Nets.square();
        far.rule(3, 0);
        far.fix(0, 6);
        far.fix(0, 4);
        Check.due("dead, as the way is too long", far.candidate(1, 0, 2), NONE);
        Check.due("the other one is not", far.candidate(1, 1, 2), 0);
    }

    @Sentence(of = 0, says = "One to which no step is possible is DEAD.")
    static void noStepLeadsOnFromADeadOne() {
        RoadTrace x = Nets.sideBySide();
        x.rule(0, 3);
        x.fix(5, 5);
        x.fix(9, 2);
        x.fix(13, 2);
        Check.due("dead from the dead one on", x.candidate(2, 0, 2), NONE);
        Check.due("it has no back", x.candidate(2, 0, 3), NONE);
        Check.due("the other one goes on", x.candidate(2, 1, 3), 1);
        x.fix(17, 0);
        Check.due("near the dead ones' road alone: another piece", x.piece(3), 1);
    }

    @Sentence(of = 0, says = "If all are, the FIX begins another PIECE (none is DEAD then).")
    static void whereAllAreDeadAnotherPieceBegins() {
        RoadTrace x = Nets.square();
        x.rule(3, 0);
        x.fix(0, 2);
        x.fix(0, 6);
        Check.due("another piece", x.piece(1), 1);
        Check.due("two candidates", x.candidate(1, -1, 0), 2);
        for (int k = 0; k < 2; k++) {
            Check.due("not dead: " + k, x.candidate(1, k, 2), x.candidate(1, k, 1));
            Check.due("no back: " + k, x.candidate(1, k, 3), NONE);
        }
        RoadTrace some = Nets.sideBySide();
        some.fix(5, 6);
        some.fix(9, 2);
        Check.due("not all are dead: no other piece", some.piece(1), 0);
    }

    @Sentence(of = 0, says = "If all are, the FIX begins another PIECE")
    static void eachFixBeginsAPiece() {
        RoadTrace x = Nets.sideBySide();
        x.rule(0, 0);
        for (int i = 0; i < 16; i++) {
            x.fix(3, i % 2 * 4);
            Check.due("the piece of fix " + i, x.piece(i), i);
        }
        totals("as many pieces as fixes", x, 0, 16, 0, 16, 0);
    }

    // ---- Terms 3: BEST

    @Sentence(of = 0, says = "BEST: of the last FIX of a PIECE the CANDIDATE of the least COST (of as little the "
        + "least ROAD),")
    static void bestOfTheLastFix() {
        RoadTrace x = Nets.sideBySide();
        x.fix(5, 2);
        Check.due("of as little the least road", x.best(0), 5);
        x.drop();
        x.fix(5, 3);
        Check.due("the least cost", x.best(0), 105);
        x.drop();
        x.fix(5, 1);
        Check.due("the least cost", x.best(0), 5);
    }

    @Sentence(of = 0, says = "BEST: of the last FIX of a PIECE the CANDIDATE of the least COST")
    static void bestIsNoDeadOne() {
        RoadTrace x = Nets.sideBySide();
        x.fix(5, 8);
        x.fix(9, 0);
        Check.due("dead, though it lies on the road", x.candidate(1, 0, 2), NONE);
        Check.due("dead, and not off", x.candidate(1, 0, 1), 0);
        Check.due("best", x.best(1), 109);
    }

    @Sentence(of = 0, says = "and by BACK those of all before it.")
    static void bestByBack() {
        RoadTrace x = Nets.sideBySide();
        for (int i = 0; i < 15; i++) {
            x.fix(i, 2);
        }
        Check.due("the first as yet", x.best(0), 0);
        x.fix(15, 3);
        for (int i = 0; i < 16; i++) {
            Check.due("fix " + i + ", as the last one turns all", x.best(i), 100 + i);
        }
        x.drop();
        x.fix(63, 63);
        Check.due("a gap turns nothing", x.best(14), 14);
    }

    @Sentence(of = 0, says = "BEST: of the last FIX of a PIECE")
    static void bestOfAnEarlierPiece() {
        RoadTrace x = Nets.square();
        x.rule(3, 0);
        x.fix(0, 7);
        x.fix(1, 3);
        x.fix(0, 8);
        Check.due("another piece began", x.piece(2), 1);
        Check.due("the first", x.best(0), 303);
        Check.due("the last of the first piece", x.best(1), 307);
        Check.due("the first of the next piece", x.best(2), 302);
    }

    // ---- Terms 3: DECIDED

    @Sentence(of = 0, says = "A FIX (no GAP) is DECIDED, if its PIECE is not the last one,")
    static void decidedInAnEarlierPiece() {
        RoadTrace x = Nets.sideBySide();
        x.crossing(40, 40);
        x.crossing(50, 40);
        x.road(4, 5, 0);
        x.fix(5, 2);
        x.fix(30, 30);
        x.fix(9, 2);
        Check.due("in the last piece", x.decided(0), NONE);
        Check.due("in the last piece", x.decided(2), NONE);
        x.fix(45, 40);
        Check.due("in an earlier piece", x.decided(0), 5);
        Check.due("in an earlier piece, its last", x.decided(2), 9);
        Check.due("the gap", x.decided(1), NONE);
        totals("all but the gap", x, x.total(0), 2, 1, 3, 4);
    }

    @Sentence(of = 0, says = "or if all CANDIDATES of the last FIX of its PIECE that are not DEAD come by BACK from "
        + "one CANDIDATE of it.")
    static void decidedWhereAllComeFromOne() {
        RoadTrace x = joined();
        x.rule(0, 2);
        x.fix(10, 2);
        Check.due("two are left", x.decided(0), NONE);
        x.fix(20, 0);
        Check.due("two here", x.candidate(1, -1, 0), 2);
        Check.due("both come from one", x.decided(0), 10);
        Check.due("not decided here", x.decided(1), NONE);
        totals("one of two", x, x.total(0), 1, 0, 1, 10);
    }

    @Sentence(of = 0, says = "that are not DEAD come by BACK from one CANDIDATE of it.")
    static void deadOnesDoNotCount() {
        RoadTrace x = Nets.sideBySide();
        x.fix(5, 6);
        Check.due("but one candidate", x.decided(0), 105);
        x.fix(9, 2);
        Check.due("one of two is dead", x.candidate(1, 0, 2), NONE);
        Check.due("the last one, of which but one is left", x.decided(1), 109);
        x.fix(13, 2);
        Check.due("two, one dead: all come from one", x.decided(2), 113);
        totals("all are decided", x, x.total(0), 1, 0, 3, 8);
    }

    @Sentence(of = 0, says = "A FIX (no GAP) is DECIDED")
    static void aGapIsNeverDecided() {
        RoadTrace x = Nets.oneRoad();
        x.fix(50, 50);
        x.fix(15, 20);
        x.fix(50, 50);
        Check.due("before", x.decided(0), NONE);
        Check.due("between gaps", x.decided(1), 5);
        Check.due("behind", x.decided(2), NONE);
        Check.due("how many", x.total(3), 1);
        x.drop();
        x.drop();
        x.fix(50, 50);
        Check.due("a gap in the stead of one that was decided", x.decided(1), NONE);
        Check.due("how many then", x.total(3), 0);
    }

    @Sentence(of = 0, says = "or if all CANDIDATES of the last FIX of its PIECE that are not DEAD come by BACK from "
        + "one CANDIDATE of it.")
    static void whatIsDecidedStays() {
        RoadTrace x = Nets.sideBySide();
        x.fix(5, 2);
        x.fix(9, 5);
        Check.due("decided", x.decided(0), 105);
        for (int i = 2; i < 16; i++) {
            x.fix(9, i % 3);
            Check.due("as it was, fix " + i, x.decided(0), 105);
            Check.due("best is the same, fix " + i, x.best(0), 105);
        }
    }

    // ---- 11 best

    @Sentence(of = 11, says = "The SPOT of a FIX by BEST; NONE: it is a GAP.")
    static void theSpotByBest() {
        RoadTrace x = Nets.fullRow();
        x.rule(0, 0);
        x.fix(11, 7);
        x.fix(40, 40);
        x.fix(10, 7);
        Check.due("the end of a road", x.best(0), 1011);
        Check.due("a gap", x.best(1), NONE);
        Check.due("along the same road", x.best(2), 1010);
    }

    @Sentence(of = 11, says = "UNKNOWN.")
    static void bestOfNoFix() {
        RoadTrace x = threeFixes();
        Check.due("the last", x.best(2), 6);
        for (int n : NO_FIX) {
            Check.due("best(" + n + ")", x.best(n), UNKNOWN);
        }
        Check.due("without fixes", Nets.square().best(0), UNKNOWN);
    }

    /** Three fixes along one road, reach 0. */
    private static RoadTrace threeFixes() {
        RoadTrace x = Nets.oneRoad();
        x.rule(0, 0);
        x.fix(12, 20);
        x.fix(14, 20);
        x.fix(16, 20);
        return x;
    }

    // ---- 12 decided

    @Sentence(of = 12, says = "The SPOT of a FIX that is DECIDED; NONE: it is not, or is a GAP.")
    static void theSpotThatIsDecided() {
        RoadTrace x = Nets.sideBySide();
        x.fix(5, 2);
        x.fix(40, 40);
        Check.due("it is not", x.decided(0), NONE);
        Check.due("a gap", x.decided(1), NONE);
        x.fix(9, 5);
        Check.due("it is", x.decided(0), 105);
        Check.due("a gap still", x.decided(1), NONE);
        Check.due("it is", x.decided(2), 109);
        x.drop();
        Check.due("it is not any more", x.decided(0), NONE);
    }

    @Sentence(of = 12, says = "UNKNOWN.")
    static void decidedOfNoFix() {
        RoadTrace x = threeFixes();
        Check.due("the last", x.decided(2), 6);
        for (int n : NO_FIX) {
            Check.due("decided(" + n + ")", x.decided(n), UNKNOWN);
        }
        Check.due("without fixes", Nets.square().decided(0), UNKNOWN);
    }

    // ---- 13 piece

    @Sentence(of = 13, says = "The number of the PIECE of a FIX, from 0 on; NONE: it is a GAP.")
    static void theNumberOfAPiece() {
        RoadTrace x = Nets.sideBySide();
        x.rule(0, 0);
        int[][] fixes = {{60, 60, NONE}, {5, 0, 0}, {9, 0, 0}, {60, 60, NONE}, {9, 0, 0}, {9, 4, 1}, {60, 60, NONE},
            {9, 0, 2}, {60, 60, NONE}};
        for (int[] f : fixes) {
            x.fix(f[0], f[1]);
        }
        for (int i = 0; i < fixes.length; i++) {
            Check.due("the piece of fix " + i, x.piece(i), fixes[i][2]);
        }
    }

    @Sentence(of = 13, says = "UNKNOWN.")
    static void pieceOfNoFix() {
        RoadTrace x = threeFixes();
        Check.due("the last", x.piece(2), 0);
        for (int n : NO_FIX) {
            Check.due("piece(" + n + ")", x.piece(n), UNKNOWN);
        }
        Check.due("without fixes", Nets.square().piece(0), UNKNOWN);
    }

    // ---- 14 step

    @Sentence(of = 14, says = "LENGTH of the WAY to a FIX from the one before in its PIECE, by BEST;")
    static void theLengthOfAStep() {
        RoadTrace x = threeFixes();
        x.fix(16, 20);
        x.fix(50, 50);
        x.fix(10, 20);
        Check.due("on", x.step(1), 2);
        Check.due("to the same place", x.step(3), 0);
        Check.due("back, over a gap", x.step(5), 6);
    }

    /** Two roads side by side, one of which ends sooner: the same two fixes, but two steps. */
    @Sentence(of = 14, says = "from the one before in its PIECE, by BEST;")
    static void aStepIsByBest() {
        RoadTrace x = new RoadTrace();
        x.crossing(0, 0);
        x.crossing(20, 0);
        x.crossing(0, 4);
        x.crossing(30, 4);
        x.road(0, 1, 0);
        x.road(2, 3, 0);
        x.rule(2, 0);
        x.fix(19, 2);
        x.fix(22, 1);
        Check.due("along the one that ends sooner", x.step(1), 1);
        x.fix(24, 4);
        Check.due("along the other one, as the last fix turns it", x.step(1), 3);
        Check.due("the last step", x.step(2), 2);
        x.drop();
        Check.due("along the first one again", x.step(1), 1);
    }

    @Sentence(of = 14, says = "NONE: it is a GAP, or begins a PIECE.")
    static void noStepToAGapOrABeginning() {
        RoadTrace x = Nets.sideBySide();
        x.rule(0, 0);
        x.fix(60, 60);
        x.fix(5, 0);
        x.fix(60, 60);
        x.fix(5, 4);
        x.fix(5, 4);
        int[] want = {NONE, NONE, NONE, NONE, 0};
        for (int i = 0; i < want.length; i++) {
            Check.due("step(" + i + ")", x.step(i), want[i]);
        }
    }

    @Sentence(of = 14, says = "UNKNOWN.")
    static void stepOfNoFix() {
        RoadTrace x = threeFixes();
        Check.due("the last", x.step(2), 2);
        for (int n : NO_FIX) {
            Check.due("step(" + n + ")", x.step(n), UNKNOWN);
        }
        Check.due("without fixes", Nets.square().step(0), UNKNOWN);
    }

    // ---- 15 through

    @Sentence(of = 15, says = "The k-th CROSSING on that WAY;")
    static void theCrossingsOnAWay() {
        RoadTrace x = Nets.square();
        x.rule(0, 0);
        x.fix(0, 5);
        x.fix(5, 0);
        x.fix(5, 10);
        x.fix(0, 5);
        Check.due("one crossing", x.through(1, 0), 0);
        Check.due("and no other one", x.through(1, 1), NONE);
        Check.due("two crossings", x.through(2, 0), 1);
        Check.due("two crossings", x.through(2, 1), 2);
        Check.due("and no third", x.through(2, 2), NONE);
        Check.due("the last way", x.through(3, 0), 3);
        RoadTrace ends = Nets.square();
        ends.rule(0, 0);
        ends.fix(8, 0);
        ends.fix(10, 0);
        Check.due("to the end of the road: none, along it", ends.through(1, 0), NONE);
        ends.fix(10, 3);
        Check.due("from a crossing on: along the next road", ends.best(1), 10);
        Check.due("the crossing at which it begins", ends.through(2, 0), 1);
    }

    @Sentence(of = 15, says = "NONE: there is no such one.")
    static void noSuchCrossingOnAWay() {
        RoadTrace x = Nets.square();
        x.rule(0, 0);
        x.fix(5, 0);
        x.fix(60, 60);
        x.fix(5, 10);
        x.fix(6, 10);
        int[] wrong = {-1, -2, 2, 11, 12, 13, 100, Integer.MIN_VALUE, Integer.MIN_VALUE + 1, Integer.MAX_VALUE};
        for (int k : wrong) {
            Check.due("k " + k + ", of two", x.through(2, k), NONE);
            Check.due("k " + k + ", of none, along a road", x.through(3, k), NONE);
            Check.due("k " + k + ", of a gap", x.through(1, k), NONE);
            Check.due("k " + k + ", of one that begins a piece", x.through(0, k), NONE);
        }
        Check.due("along a road", x.through(3, 0), NONE);
        Check.due("a gap", x.through(1, 0), NONE);
        Check.due("it begins a piece", x.through(0, 0), NONE);
    }

    @Sentence(of = 15, says = "NONE: there is no such one.")
    static void noneWhereAnotherPieceBegins() {
        RoadTrace x = Nets.square();
        x.rule(0, 0);
        x.rule(3, 0);
        x.fix(5, 0);
        x.fix(5, 10);
        Check.due("another piece", x.piece(1), 1);
        Check.due("no way to it", x.through(1, 0), NONE);
    }

    @Sentence(of = 15, says = "UNKNOWN.")
    static void throughOfNoFix() {
        RoadTrace x = threeFixes();
        for (int n : NO_FIX) {
            Check.due("through(" + n + ", 0)", x.through(n, 0), UNKNOWN);
            Check.due("through(" + n + ", -1)", x.through(n, -1), UNKNOWN);
        }
        Check.due("without fixes", Nets.square().through(0, 0), UNKNOWN);
    }

    // ---- 16 total

    @Sentence(of = 16, says = "COSTS of BEST of all PIECES, added (what = 0), how many PIECES (1), GAPS (2),")
    static void totalsOfSeveralPieces() {
        RoadTrace x = Nets.sideBySide();
        x.rule(0, 1);
        totals("nothing yet", x, 0, 0, 0, 0, 0);
        x.fix(5, 1);
        totals("one", x, 1, 1, 0, 1, 0);
        x.fix(8, 0);
        totals("straight on is 4, the way 3", x, 2, 1, 0, 2, 3);
        x.fix(60, 60);
        totals("a gap", x, 2, 1, 1, 2, 3);
        x.fix(8, 5);
        totals("another piece", x, 3, 2, 1, 3, 3);
        x.fix(8, 5);
        totals("it stays there", x, 4, 2, 1, 4, 3);
        x.fix(8, 0);
        totals("a third piece", x, 4, 3, 1, 5, 3);
    }

    @Sentence(of = 16, says = "FIXES that are DECIDED (3), LENGTHS of all WAYS by BEST (4).")
    static void totalsOfAFullObject() {
        RoadTrace x = Nets.fullRow();
        x.rule(0, 8);
        for (int i = 0; i < 16; i++) {
            x.fix(i % 2 * 10, 7);
        }
        totals("to and fro", x, 0, 1, 0, x.total(3), 15 * 10);
        RoadTrace open = Nets.sideBySide();
        Nets.manyFixes(open, 16, 5, 2);
        // each stays where it is, two off
        totals("none is decided", open, 16 * 2, 1, 0, 0, 0);
        open.drop();
        open.fix(5, 5);
        totals("all are decided", open, 15 * 2 + 3 + 1, 1, 0, 16, 0);
    }

    @Sentence(of = 16, says = "OUTSIDE.")
    static void totalsOutside() {
        RoadTrace x = threeFixes();
        totals("three along a road", x, 0, 1, 0, 3, 4);
        for (int n : new int[] {-1, 5, 6, 100, Integer.MIN_VALUE, Integer.MAX_VALUE}) {
            Check.due("total(" + n + ")", x.total(n), OUTSIDE);
            Check.due("total(" + n + ") of a new object", new RoadTrace().total(n), OUTSIDE);
        }
    }
}
