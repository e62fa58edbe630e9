/** Crossings, roads, rules and cells: the sentences of 'Terms' 1 and of the promises 1 to 5. */
final class NetBoundaries {
    private static final int UNKNOWN = RoadTrace.UNKNOWN;
    private static final int OUTSIDE = RoadTrace.OUTSIDE;
    private static final int STATE = RoadTrace.STATE;
    private static final int FULL = RoadTrace.FULL;
    private static final int NO = RoadTrace.NO;
    private static final int[] FAR_OFF = {Integer.MIN_VALUE, Integer.MIN_VALUE + 1, -65536, -64, -1, 65536, 1 << 24,
        Integer.MAX_VALUE - 1, Integer.MAX_VALUE};

    private NetBoundaries() {
    }

    // ---- Terms 1

    @Sentence(of = 0, says = "CROSSINGS (12 at most)")
    static void twelveCrossingsAtMost() {
        RoadTrace x = new RoadTrace();
        for (int i = 0; i < 11; i++) {
            x.crossing(i, 0);
        }
        Check.due("the 12th crossing", x.crossing(11, 0), 12);
        Check.due("the 13th crossing", x.crossing(12, 0), FULL);
        Check.due("crossings", x.told(0), 12);
    }

    @Sentence(of = 0, says = "and ROADS (20 at most)")
    static void twentyRoadsAtMost() {
        RoadTrace x = new RoadTrace();
        for (int i = 0; i < 12; i++) {
            x.crossing(0, i);
        }
        for (int i = 0; i < 11; i++) {
            x.road(i, i + 1, 0);
        }
        for (int i = 0; i < 8; i++) {
            x.road(i, i + 2, 1);
        }
        Check.due("the 20th road", x.road(8, 10, 0), 20);
        Check.due("the 21st road", x.road(9, 11, 0), FULL);
        Check.due("roads", x.told(1), 20);
    }

    @Sentence(of = 0, says = "are numbered from 0 on as they came.")
    static void numberedFromNoughtAsTheyCame() {
        RoadTrace x = new RoadTrace();
        x.crossing(9, 3);
        x.crossing(2, 3);
        x.crossing(9, 1);
        x.road(2, 0, 0);
        x.road(0, 1, 1);
        Check.due("crossing 0", x.told(100), 903);
        Check.due("crossing 1", x.told(101), 203);
        Check.due("crossing 2", x.told(102), 901);
        Check.due("road 0", x.told(200), 2000);
        Check.due("road 1", x.told(201), 11);
        Check.due("a spot of road 0", x.way(0, 2), 2);
        Check.due("a spot of road 1", x.way(100, 107), 7);
    }

    @Sentence(of = 0, says = "A CROSSING lies at X and Y, 0 to 63 each,")
    static void crossingsLieWithinTheirBounds() {
        RoadTrace x = new RoadTrace();
        Check.due("both least", x.crossing(0, 0), 1);
        Check.due("x greatest", x.crossing(63, 0), 2);
        Check.due("y greatest", x.crossing(0, 63), 3);
        Check.due("both greatest", x.crossing(63, 63), 4);
        Check.due("x one too great", x.crossing(64, 5), OUTSIDE);
        Check.due("y one too great", x.crossing(5, 64), OUTSIDE);
        Check.due("x one too little", x.crossing(-1, 5), OUTSIDE);
        Check.due("y one too little", x.crossing(5, -1), OUTSIDE);
        for (int n : FAR_OFF) {
            Check.due("x " + n, x.crossing(n, 5), OUTSIDE);
            Check.due("y " + n, x.crossing(5, n), OUTSIDE);
        }
        Check.due("crossings", x.told(0), 4);
    }

    @Sentence(of = 0, says = "no two at one place.")
    static void noTwoCrossingsAtOnePlace() {
        RoadTrace x = new RoadTrace();
        x.crossing(5, 6);
        x.crossing(0, 0);
        Check.due("at the place of the first", x.crossing(5, 6), NO);
        Check.due("at the place of the last", x.crossing(0, 0), NO);
        Check.due("the same x alone", x.crossing(5, 7), 3);
        Check.due("the same y alone", x.crossing(6, 6), 4);
        Check.due("x and y the other way round", x.crossing(6, 5), 5);
    }

    @Sentence(of = 0, says = "A ROAD lies between two CROSSINGS of the same X or the same Y,")
    static void roadsLieInOneRow() {
        RoadTrace x = new RoadTrace();
        x.crossing(10, 10);
        x.crossing(10, 11);
        x.crossing(11, 11);
        x.crossing(63, 10);
        Check.due("the same x, one apart", x.road(0, 1, 0), 1);
        Check.due("the same y, one apart", x.road(1, 2, 0), 2);
        Check.due("the same y, far apart", x.road(3, 0, 0), 3);
        Check.due("askew by one", x.road(0, 2, 0), NO);
        Check.due("askew, far apart", x.road(2, 3, 0), NO);
    }

    @Sentence(of = 0, says = "from the one (FIRST) to the other one (LAST),")
    static void fromFirstToLast() {
        RoadTrace x = Nets.square();
        Check.due("first 3, last 0", x.told(203), 3001);
        Check.due("from first on", x.way(300, 303), 3);
        Check.due("the offset is from first", x.way(300, 0), 10);
    }

    @Sentence(of = 0, says = "no two between the same;")
    static void noTwoRoadsBetweenTheSame() {
        RoadTrace x = new RoadTrace();
        x.crossing(0, 0);
        x.crossing(5, 0);
        x.crossing(9, 0);
        x.road(0, 1, 1);
        Check.due("once more", x.road(0, 1, 1), NO);
        Check.due("once more, both ways", x.road(0, 1, 0), NO);
        Check.due("the other way round", x.road(1, 0, 1), NO);
        Check.due("the other way round, both ways", x.road(1, 0, 0), NO);
        Check.due("over it, to another one", x.road(0, 2, 0), 2);
        Check.due("on from it", x.road(1, 2, 0), 3);
    }

    @Sentence(of = 0, says = "it goes BOTH ways (0), or but from FIRST to LAST (1).")
    static void bothWaysOrButOne() {
        RoadTrace x = new RoadTrace();
        x.crossing(0, 0);
        x.crossing(5, 0);
        x.crossing(9, 0);
        x.road(0, 1, 0);
        x.road(2, 1, 1);
        Check.due("both ways, on", x.between(0, 1), 5);
        Check.due("both ways, back", x.between(1, 0), 5);
        Check.due("one way, on", x.between(2, 1), 4);
        Check.due("one way, back", x.between(1, 2), RoadTrace.NONE);
        Check.due("way 2", x.road(0, 2, 2), OUTSIDE);
        Check.due("way -1", x.road(0, 2, -1), OUTSIDE);
    }

    @Sentence(of = 0, says = "LENGTH: how far these are apart.")
    static void theLengthOfARoad() {
        RoadTrace x = new RoadTrace();
        x.crossing(63, 63);
        x.crossing(0, 63);
        x.crossing(0, 62);
        x.crossing(63, 0);
        x.road(0, 1, 0);
        x.road(1, 2, 0);
        x.road(3, 0, 0);
        Check.due("the longest by x", x.between(0, 1), 63);
        Check.due("the longest by y", x.between(3, 0), 63);
        Check.due("the shortest", x.between(2, 1), 1);
    }

    @Sentence(of = 0, says = "A SPOT on it: the OFFSET from FIRST, 0 to LENGTH;")
    static void spotsFromFirstToLast() {
        RoadTrace x = new RoadTrace();
        x.crossing(63, 0);
        x.crossing(0, 0);
        x.crossing(0, 1);
        x.road(0, 1, 0);
        x.road(1, 2, 0);
        Check.due("offset 0 and the length", x.way(0, 63), 63);
        Check.due("offset past the length", x.way(64, 0), UNKNOWN);
        Check.due("offset far past the length", x.way(99, 0), UNKNOWN);
        Check.due("the shortest road's spots", x.way(100, 101), 1);
        Check.due("past the shortest road", x.way(100, 102), UNKNOWN);
        Check.due("before the first of all", x.way(-1, 0), UNKNOWN);
    }

    @Sentence(of = 0, says = "its code is 100 times the ROAD, and the OFFSET.")
    static void theCodesOfSpots() {
        RoadTrace x = Nets.fullRow();
        Check.due("the last road, from end to end", x.way(1900, 1909), 9);
        Check.due("past its end", x.way(1900, 1910), UNKNOWN);
        Check.due("past the last road", x.way(2000, 0), UNKNOWN);
        x.rule(0, 0);
        x.fix(10, 7);
        Check.due("candidates of the place of crossing 10", x.candidate(0, -1, 0), 3);
        Check.due("the end of road 9", x.candidate(0, 0, 0), 910);
        Check.due("on road 10", x.candidate(0, 1, 0), 1010);
        Check.due("the end of road 19", x.candidate(0, 2, 0), 1909);
    }

    @Sentence(of = 0, says = "CELLS: eight by eight of them, X by 8 and Y by 8 (cut).")
    static void cellsAreCutByEight() {
        RoadTrace x = new RoadTrace();
        x.crossing(7, 16);
        x.crossing(6, 16);
        x.crossing(8, 23);
        x.crossing(15, 23);
        x.road(0, 1, 0);
        x.road(2, 3, 0);
        Check.due("x 6 and 7 are in the first column", x.cell(0, 2), 1);
        Check.due("x 8 to 15 are in the second one, y 23 in the third row", x.cell(1, 2), 1);
        Check.due("x 15 is not in the third one", x.cell(2, 2), 0);
        Check.due("y 16 is not in the second row", x.cell(0, 1), 0);
        Check.due("y 23 is not in the fourth row", x.cell(1, 3), 0);
    }

    @Sentence(of = 0, says = "A ROAD is in all CELLS in which some whole SPOT of it lies.")
    static void aRoadIsInAllItsCells() {
        RoadTrace x = new RoadTrace();
        x.crossing(63, 63);
        x.crossing(0, 63);
        x.crossing(32, 31);
        x.crossing(32, 32);
        x.crossing(40, 8);
        x.crossing(40, 7);
        x.road(0, 1, 1);
        x.road(2, 3, 0);
        x.road(4, 5, 0);
        for (int i = 0; i < 8; i++) {
            Check.due("from edge to edge, cell " + i, x.cell(i, 7), 1);
            Check.due("the row before, cell " + i, x.cell(i, 6), 0);
        }
        Check.due("but its first spot", x.cell(4, 3), 1);
        Check.due("but its last spot", x.cell(4, 4), 1);
        Check.due("but its first spot, backward", x.cell(5, 1), 1);
        Check.due("but its last spot, backward", x.cell(5, 0), 1);
        Check.due("beside it", x.cell(3, 3), 0);
    }

    @Sentence(of = 0, says = "RULES: REACH 0 to 8 (4 at first), OFF 0 to 9 (1), MORE 0 to 9 (1), SLACK 0 to 99 (40).")
    static void theBoundsOfRules() {
        int[] most = {8, 9, 9, 99};
        int[] atFirst = {4, 1, 1, 40};
        for (int what = 0; what < 4; what++) {
            RoadTrace x = new RoadTrace();
            Check.due("rule " + what + " at first", x.told(3 + what), atFirst[what]);
            Check.due("rule " + what + " one too great", x.rule(what, most[what] + 1), OUTSIDE);
            Check.due("rule " + what + " one too little", x.rule(what, -1), OUTSIDE);
            Check.due("rule " + what + " least", x.rule(what, 0), atFirst[what]);
            Check.due("rule " + what + " greatest", x.rule(what, most[what]), 0);
            Check.due("rule " + what + " now", x.told(3 + what), most[what]);
        }
    }

    // ---- 1 A new object

    @Sentence(of = 1, says = "No CROSSING,")
    static void aNewObjectHasNoCrossing() {
        RoadTrace x = new RoadTrace();
        Check.due("crossings", x.told(0), 0);
        Check.due("crossing 0", x.told(100), OUTSIDE);
        Check.due("no way from it", x.between(0, 0), UNKNOWN);
        Check.due("roads", x.told(1), 0);
        Check.due("road 0", x.told(200), OUTSIDE);
        Check.due("no spot on it", x.way(0, 0), UNKNOWN);
        Check.due("no road can come", x.road(0, 0, 0), UNKNOWN);
        for (int cell = 0; cell < 64; cell++) {
            Check.due("cell " + cell, x.cell(cell / 8, cell % 8), 0);
        }
    }

    @Sentence(of = 1, says = "no FIX.")
    static void aNewObjectHasNoFix() {
        RoadTrace x = new RoadTrace();
        Check.due("fixes", x.told(2), 0);
        Check.due("fix 0", x.told(300), OUTSIDE);
        Check.due("nothing to drop", x.drop(), NO);
        Check.due("candidates", x.candidate(0, -1, 0), UNKNOWN);
        Check.due("best", x.best(0), UNKNOWN);
        Check.due("decided", x.decided(0), UNKNOWN);
        Check.due("piece", x.piece(0), UNKNOWN);
        Check.due("step", x.step(0), UNKNOWN);
        Check.due("through", x.through(0, 0), UNKNOWN);
        for (int what = 0; what <= 4; what++) {
            Check.due("total(" + what + ")", x.total(what), 0);
        }
        Check.due("rules may change", x.rule(0, 0), 4);
    }

    @Sentence(of = 1, says = {"No CROSSING,", "no FIX."})
    static void aNewObjectHasNothingOfAnotherOne() {
        RoadTrace other = Nets.fullGrid();
        other.rule(0, 8);
        Nets.manyFixes(other, 16, 3, 3);
        other.image(0);
        String before = Seen.all(other);
        RoadTrace x = new RoadTrace();
        Check.due("crossings", x.told(0), 0);
        Check.due("fixes", x.told(2), 0);
        Check.due("the rule", x.told(3), 4);
        Check.due("the image", x.restore(0), STATE);
        x.crossing(60, 60);
        x.fix(60, 60);
        Check.isTrue("the other one is as it was", before.equals(Seen.all(other)));
    }

    // ---- 2 crossing

    @Sentence(of = 2, says = "A CROSSING comes: how many there are.")
    static void crossingsAreCounted() {
        RoadTrace x = new RoadTrace();
        for (int i = 1; i <= 12; i++) {
            Check.due("crossing " + i, x.crossing(63 - i, i), i);
            Check.due("crossings", x.told(0), i);
        }
    }

    @Sentence(of = 2, says = "OUTSIDE;")
    static void aCrossingOutsideIsRefusedFirst() {
        RoadTrace full = Nets.fullGrid();
        Check.due("OUTSIDE before FULL", full.crossing(0, 64), OUTSIDE);
        full.fix(0, 0);
        Check.due("OUTSIDE before STATE", full.crossing(64, 0), OUTSIDE);
        for (int n : FAR_OFF) {
            Check.due("OUTSIDE, x " + n, full.crossing(n, 0), OUTSIDE);
            Check.due("OUTSIDE, y " + n, full.crossing(0, n), OUTSIDE);
        }
    }

    @Sentence(of = 2, says = "STATE: there are FIXES;")
    static void noCrossingComesWhileThereAreFixes() {
        RoadTrace x = new RoadTrace();
        x.crossing(1, 1);
        x.fix(40, 40);
        Check.due("one fix, though it is a gap", x.crossing(2, 2), STATE);
        x.fix(1, 1);
        Check.due("two fixes", x.crossing(2, 2), STATE);
        x.drop();
        Check.due("one fix again", x.crossing(2, 2), STATE);
        x.drop();
        Check.due("no fix again", x.crossing(2, 2), 2);
        Nets.manyFixes(x, 16, 1, 1);
        Check.due("all fixes", x.crossing(3, 3), STATE);
    }

    @Sentence(of = 2, says = "NO: one lies there;")
    static void noCrossingComesWhereOneLies() {
        RoadTrace x = Nets.fullGrid();
        RoadTrace part = new RoadTrace();
        for (int i = 0; i < 12; i++) {
            Check.due("place " + i + " of a full net", x.crossing(i % 4 * 5, i / 4 * 5), NO);
            part.crossing(i, 63 - i);
            Check.due("place " + i + ", at once", part.crossing(i, 63 - i), NO);
        }
    }

    @Sentence(of = 2, says = "FULL;")
    static void noCrossingComesPastTheTwelfth() {
        RoadTrace x = Nets.fullRow();
        Check.due("the 13th", x.crossing(63, 63), FULL);
        Check.due("the 13th again", x.crossing(0, 0), FULL);
        Check.due("no 13th is told", x.told(112), OUTSIDE);
        Check.due("no 13th is known", x.between(12, 12), UNKNOWN);
    }

    @Sentence(of = 2, says = "OUTSIDE; STATE: there are FIXES; NO: one lies there; FULL; in this order.")
    static void theOrderOfCrossing() {
        RoadTrace x = Nets.fullGrid();
        Check.due("NO before FULL", x.crossing(5, 5), NO);
        x.fix(60, 60);
        Check.due("STATE before NO", x.crossing(5, 5), STATE);
        Check.due("STATE before FULL", x.crossing(6, 6), STATE);
        Check.due("OUTSIDE before all", x.crossing(-5, 5), OUTSIDE);
    }

    // ---- 3 road

    @Sentence(of = 3, says = "A ROAD comes: how many there are.")
    static void roadsAreCounted() {
        RoadTrace x = new RoadTrace();
        for (int i = 0; i < 12; i++) {
            x.crossing(i, 3);
        }
        int count = 0;
        for (int i = 0; i < 10; i++) {
            for (int j = i + 1; j <= i + 2; j++) {
                count++;
                Check.due("road " + count, x.road(i, j, count % 2), count);
                Check.due("roads", x.told(1), count);
            }
        }
    }

    @Sentence(of = 3, says = "UNKNOWN: both;")
    static void aRoadBetweenUnknownCrossings() {
        RoadTrace x = Nets.fullGrid();
        x.fix(0, 0);
        for (int n : new int[] {-1, 12, Integer.MIN_VALUE, Integer.MAX_VALUE}) {
            Check.due("first " + n, x.road(n, 0, 0), UNKNOWN);
            Check.due("last " + n, x.road(0, n, 0), UNKNOWN);
            Check.due("both " + n, x.road(n, n, 0), UNKNOWN);
            Check.due("first " + n + ", way 2", x.road(n, 0, 2), UNKNOWN);
            Check.due("last " + n + ", way -1", x.road(0, n, -1), UNKNOWN);
        }
        RoadTrace one = new RoadTrace();
        one.crossing(0, 0);
        Check.due("but one crossing", one.road(0, 1, 0), UNKNOWN);
        Check.due("but one crossing", one.road(1, 0, 0), UNKNOWN);
    }

    @Sentence(of = 3, says = "OUTSIDE: WAY 0, 1;")
    static void aRoadOfAnotherWay() {
        RoadTrace x = new RoadTrace();
        x.crossing(0, 0);
        x.crossing(0, 9);
        x.crossing(9, 9);
        for (int n : new int[] {-1, 2, 3, 100, Integer.MIN_VALUE, Integer.MAX_VALUE}) {
            Check.due("way " + n, x.road(0, 1, n), OUTSIDE);
        }
        Check.due("way 1", x.road(0, 1, 1), 1);
        Check.due("way 0", x.road(1, 2, 0), 2);
    }

    @Sentence(of = 3, says = "STATE: there are FIXES;")
    static void noRoadComesWhileThereAreFixes() {
        RoadTrace x = new RoadTrace();
        x.crossing(0, 0);
        x.crossing(0, 9);
        x.fix(50, 50);
        Check.due("one fix, though it is a gap", x.road(0, 1, 0), STATE);
        x.drop();
        Check.due("no fix again", x.road(0, 1, 0), 1);
    }

    @Sentence(of = 3, says = "NO: they are one, are not in one row, or have a ROAD;")
    static void noRoadComesWhereNoneCanLie() {
        RoadTrace x = Nets.square();
        for (int i = 0; i < 4; i++) {
            Check.due("they are one: " + i, x.road(i, i, i % 2), NO);
        }
        Check.due("not in one row", x.road(0, 2, 0), NO);
        Check.due("not in one row", x.road(3, 1, 1), NO);
        Check.due("they have one", x.road(0, 1, 1), NO);
        Check.due("they have one the other way", x.road(0, 3, 0), NO);
    }

    @Sentence(of = 3, says = "FULL;")
    static void noRoadComesPastTheTwentieth() {
        RoadTrace x = Nets.fullRow();
        Check.due("the 21st", x.road(10, 11, 0), FULL);
        Check.due("the 21st again", x.road(1, 11, 1), FULL);
        Check.due("no 21st is told", x.told(220), OUTSIDE);
        Check.due("no 21st is near", x.way(2000, 2000), UNKNOWN);
    }

    @Sentence(of = 3, says = "UNKNOWN: both; OUTSIDE: WAY 0, 1; STATE: there are FIXES; NO: they are one, are not "
        + "in one row, "
        + "or have a ROAD; FULL; in this order.")
    static void theOrderOfRoad() {
        RoadTrace x = Nets.fullGrid();
        Check.due("UNKNOWN before OUTSIDE", x.road(0, 12, 2), UNKNOWN);
        Check.due("UNKNOWN before FULL", x.road(12, 0, 0), UNKNOWN);
        Check.due("OUTSIDE before NO: one", x.road(1, 1, 2), OUTSIDE);
        Check.due("OUTSIDE before NO: a row", x.road(0, 5, 2), OUTSIDE);
        Check.due("OUTSIDE before NO: a road", x.road(0, 1, 2), OUTSIDE);
        Check.due("OUTSIDE before FULL", x.road(0, 3, 2), OUTSIDE);
        Check.due("NO before FULL: one", x.road(1, 1, 0), NO);
        Check.due("NO before FULL: a row", x.road(0, 5, 0), NO);
        Check.due("NO before FULL: a road", x.road(0, 1, 0), NO);
        x.fix(60, 60);
        Check.due("UNKNOWN before STATE", x.road(-1, 0, 0), UNKNOWN);
        Check.due("OUTSIDE before STATE", x.road(0, 3, 2), OUTSIDE);
        Check.due("STATE before NO: one", x.road(1, 1, 0), STATE);
        Check.due("STATE before NO: a row", x.road(0, 5, 0), STATE);
        Check.due("STATE before NO: a road", x.road(0, 1, 0), STATE);
        Check.due("STATE before FULL", x.road(0, 3, 0), STATE);
    }

    // ---- 4 rule

    @Sentence(of = 4, says = "A RULE: REACH (what = 0), OFF (1), MORE (2), SLACK (3): which it was.")
    static void whichARuleWas() {
        RoadTrace x = new RoadTrace();
        int[] atFirst = {4, 1, 1, 40};
        for (int what = 0; what < 4; what++) {
            Check.due("rule " + what + " was at first", x.rule(what, what + 5), atFirst[what]);
        }
        for (int what = 0; what < 4; what++) {
            Check.due("rule " + what + " was then", x.rule(what, what + 5), what + 5);
            Check.due("rule " + what + ", as it is the same", x.rule(what, 0), what + 5);
        }
    }

    @Sentence(of = 4, says = "A RULE: REACH (what = 0), OFF (1), MORE (2), SLACK (3)")
    static void whichRuleIsWhich() {
        RoadTrace reach = Nets.oneRoad();
        reach.rule(0, 5);
        reach.fix(15, 25);
        Check.due("0 is how far a road is near", reach.candidate(0, -1, 0), 1);
        RoadTrace off = Nets.oneRoad();
        off.rule(1, 7);
        off.fix(15, 22);
        Check.due("1 is what lying off costs", off.total(0), 14);
        RoadTrace more = Nets.oneRoad();
        more.rule(2, 6);
        more.rule(1, 0);
        more.fix(15, 20);
        more.fix(15, 21);
        Check.due("2 is what a detour costs", more.total(0), 6);
        RoadTrace slack = Nets.square();
        slack.rule(0, 0);
        slack.rule(3, 31);
        slack.fix(0, 2);
        slack.fix(0, 6);
        Check.due("3 is how much longer a way may be", slack.piece(1), 1);
    }

    @Sentence(of = 4, says = "OUTSIDE: both;")
    static void aRuleOutside() {
        RoadTrace x = new RoadTrace();
        int[] most = {8, 9, 9, 99};
        for (int n : FAR_OFF) {
            Check.due("what " + n, x.rule(n, 0), OUTSIDE);
            for (int what = 0; what < 4; what++) {
                Check.due("rule " + what + ", n " + n, x.rule(what, n), OUTSIDE);
            }
        }
        Check.due("what 4", x.rule(4, 0), OUTSIDE);
        Check.due("what -1", x.rule(-1, 0), OUTSIDE);
        for (int what = 0; what < 4; what++) {
            Check.due("one too great for rule " + what, x.rule(what, most[what] + 1), OUTSIDE);
        }
        int[] atFirst = {4, 1, 1, 40};
        for (int what = 0; what < 4; what++) {
            Check.due("rule " + what + " as it was", x.told(3 + what), atFirst[what]);
        }
    }

    @Sentence(of = 4, says = "STATE: there are FIXES.")
    static void noRuleChangesWhileThereAreFixes() {
        RoadTrace x = new RoadTrace();
        x.fix(0, 0);
        for (int what = 0; what < 4; what++) {
            Check.due("rule " + what + " with a fix", x.rule(what, 5), STATE);
            Check.due("rule " + what + " too great, with a fix", x.rule(what, 100), OUTSIDE);
        }
        Check.due("what 4 with a fix", x.rule(4, 5), OUTSIDE);
        x.drop();
        int[] atFirst = {4, 1, 1, 40};
        for (int what = 0; what < 4; what++) {
            Check.due("rule " + what + " without it", x.rule(what, 5), atFirst[what]);
        }
    }

    // ---- 5 cell

    @Sentence(of = 5, says = "How many ROADS are in a CELL.")
    static void roadsInACell() {
        RoadTrace none = new RoadTrace();
        none.crossing(3, 3);
        Check.due("crossings alone", none.cell(0, 0), 0);
        RoadTrace full = Nets.fullRow();
        Check.due("all twenty", full.cell(0, 0), 20);
        // roads 0-8 to 0-11 and 1-8 to 1-10 alone go past x 7
        Check.due("those that go on", full.cell(1, 0), 7);
        Check.due("none so far", full.cell(2, 0), 0);
        Check.due("none below", full.cell(0, 1), 0);
        full.fix(60, 60);
        Check.due("with a fix", full.cell(1, 0), 7);
    }

    @Sentence(of = 5, says = "OUTSIDE: 0 to 7 each.")
    static void aCellOutside() {
        RoadTrace x = new RoadTrace();
        x.crossing(0, 0);
        x.crossing(63, 0);
        x.crossing(63, 63);
        x.crossing(0, 63);
        for (int i = 0; i < 4; i++) {
            x.road(i, (i + 1) % 4, 0);
        }
        Check.due("the first cell", x.cell(0, 0), 2);
        Check.due("the last cell", x.cell(7, 7), 2);
        Check.due("x greatest", x.cell(7, 0), 2);
        Check.due("y greatest", x.cell(0, 7), 2);
        Check.due("x one too great", x.cell(8, 0), OUTSIDE);
        Check.due("y one too great", x.cell(0, 8), OUTSIDE);
        Check.due("x one too little", x.cell(-1, 0), OUTSIDE);
        Check.due("y one too little", x.cell(0, -1), OUTSIDE);
        for (int n : FAR_OFF) {
            Check.due("x " + n, x.cell(n, 0), OUTSIDE);
            Check.due("y " + n, x.cell(0, n), OUTSIDE);
        }
    }
}
