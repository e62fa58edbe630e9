/** Least ways: what 'Terms' 2 says of a WAY, and the promises 6 and 7. */
final class WayBoundaries {
    private static final int NONE = RoadTrace.NONE;
    private static final int UNKNOWN = RoadTrace.UNKNOWN;

    private WayBoundaries() {
    }

    // ---- Terms 2: a WAY

    @Sentence(of = 0, says = "A WAY from one SPOT to another one: along one ROAD (only on, if it goes but one way),")
    static void alongOneRoad() {
        RoadTrace x = Nets.square();
        Check.due("both ways, on", x.way(0, 10), 10);
        Check.due("both ways, back", x.way(10, 0), 10);
        Check.due("one way, on by all of it", x.way(300, 310), 10);
        Check.due("one way, on by one", x.way(304, 305), 1);
        Check.due("one way, to itself", x.way(304, 304), 0);
        Check.due("one way, back by one: all round", x.way(305, 304), 39);
        Check.due("one way, back by all of it: round", x.way(310, 300), 30);
    }

    @Sentence(of = 0, says = "or on to LAST, or back to FIRST, if it goes BOTH ways,")
    static void outOfARoad() {
        RoadTrace x = Nets.square();
        Check.due("both ways, on to last", x.way(9, 101), 2);
        Check.due("both ways, back to first", x.way(101, 9), 2);
        Check.due("one way, on to last", x.way(309, 1), 2);
        Check.due("one way, not back to first", x.way(301, 209), 9 + 20 + 9);
        Check.due("one way, not back to first even from it", x.way(300, 210), 10 + 30);
    }

    @Sentence(of = 0, says = "along ROADS from CROSSING to CROSSING,")
    static void fromCrossingToCrossing() {
        RoadTrace x = Nets.spiral();
        Check.due("over no road between", x.way(63, 100), 0);
        Check.due("over one road between", x.way(63, 200), 63);
        Check.due("over all roads between", x.way(63, 1000), 673 - 63 - 59);
        Check.due("over all roads", x.way(0, 1059), 673);
        Check.due("and back", x.way(1059, 0), 673);
        Check.due("roads that meet but at no crossing have no way", twoThatCross().way(5, 105), NONE);
    }

    /** Two roads that lie over one another at (15, 15), where there is no crossing. */
    private static RoadTrace twoThatCross() {
        RoadTrace x = new RoadTrace();
        x.crossing(10, 15);
        x.crossing(20, 15);
        x.crossing(15, 10);
        x.crossing(15, 20);
        x.road(0, 1, 0);
        x.road(2, 3, 0);
        return x;
    }

    @Sentence(of = 0, says = "and in from FIRST, or from LAST, if that goes BOTH ways.")
    static void intoARoad() {
        RoadTrace x = Nets.square();
        Check.due("both ways, in from first", x.way(9, 103), 4);
        Check.due("both ways, in from last", x.way(201, 109), 2);
        Check.due("one way, in from first", x.way(209, 301), 2);
        Check.due("one way, not in from last", x.way(1, 309), 9 + 20 + 9);
        Check.due("one way, not in from last even to it", x.way(0, 310), 30 + 10);
    }

    @Sentence(of = 0, says = "LENGTH of it: the least of all.")
    static void theLeastOfAllWays() {
        RoadTrace x = Nets.square();
        Check.due("by the nearer side", x.way(4, 206), 6 + 10 + 6);
        // from 4 back to 0 there is no way on, as the road from 3 goes but one way
        Check.due("round by last", x.way(4, 209), 6 + 10 + 9);
        Check.due("back it may go by the one way", x.way(209, 4), 1 + 10 + 4);
        RoadTrace equal = rectangle();
        Check.due("by both sides as long", equal.way(10, 110), 30);
        Check.due("by one side one shorter", equal.way(9, 110), 29);
        Check.due("by the other side one shorter", equal.way(11, 110), 29);
    }

    /** Roads 0 and 1 lie opposite: first of 0 beside last of 1; crossings of the other side have lesser numbers. */
    private static RoadTrace rectangle() {
        RoadTrace x = new RoadTrace();
        x.crossing(20, 0);
        x.crossing(20, 10);
        x.crossing(0, 0);
        x.crossing(0, 10);
        x.road(2, 0, 0);
        x.road(1, 3, 0);
        x.road(2, 3, 0);
        x.road(0, 1, 0);
        x.rule(0, 0);
        return x;
    }

    // ---- Terms 2: a way OUT

    private static void through(String what, RoadTrace x, int... want) {
        for (int k = 0; k < want.length; k++) {
            Check.due(what + ", crossing " + k, x.through(1, k), want[k]);
        }
        Check.due(what + ", no more", x.through(1, want.length), NONE);
    }

    @Sentence(of = 0, says = "A way OUT of which it is: the first of these by which it is as little: along one ROAD;")
    static void alongOneRoadBeforeAllElse() {
        int[][] ends = {{10, 10}, {10, 20}, {20, 10}, {20, 20}};
        for (int[] e : ends) {
            RoadTrace x = Nets.oneRoad();
            x.rule(0, 0);
            x.fix(e[0], 20);
            x.fix(e[1], 20);
            Check.due("from end to end", x.step(1), Math.abs(e[0] - e[1]));
            through("from " + e[0] + " to " + e[1], x);
        }
    }

    /**
     * Road 0 leads from or to crossing 0; from there both ends of road 1, P (5) and Q (3), are equally far, over
     * crossing 4 or over crossing 2. The lesser numbers are on the side of Q.
     */
    private static RoadTrace spur(boolean leavesByLast) {
        RoadTrace x = new RoadTrace();
        x.crossing(10, 10);
        x.crossing(10, 0);
        x.crossing(20, 10);
        x.crossing(20, 20);
        x.crossing(0, 10);
        x.crossing(0, 20);
        x.road(leavesByLast ? 1 : 0, leavesByLast ? 0 : 1, 0);
        x.road(5, 3, 0);
        x.road(0, 2, 0);
        x.road(2, 3, 0);
        x.road(0, 4, 0);
        x.road(4, 5, 0);
        x.rule(0, 0);
        return x;
    }

    @Sentence(of = 0, says = "from FIRST to FIRST, from FIRST to LAST,")
    static void firstToFirstBeforeFirstToLast() {
        RoadTrace x = spur(false);
        x.fix(10, 5);
        x.fix(10, 20);
        Check.due("its length", x.step(1), 35);
        through("from first to first", x, 0, 4, 5);
        x.drop();
        x.fix(11, 20);
        through("one shorter by the other side", x, 0, 2, 3);
    }

    @Sentence(of = 0, says = "from FIRST to FIRST, from FIRST to LAST, from LAST to FIRST,")
    static void firstToFirstBeforeLastToFirst() {
        RoadTrace x = spur(false);
        x.fix(10, 20);
        x.fix(10, 5);
        Check.due("its length", x.step(1), 35);
        through("from first to first", x, 5, 4, 0);
    }

    @Sentence(of = 0, says = "from FIRST to LAST, from LAST to FIRST,")
    static void firstToLastBeforeLastToFirst() {
        RoadTrace x = rectangle();
        x.fix(10, 0);
        x.fix(10, 10);
        Check.due("its length", x.step(1), 30);
        through("from first to last", x, 2, 3);
        x.drop();
        x.fix(11, 10);
        through("one shorter from last to first", x, 0, 1);
    }

    @Sentence(of = 0, says = "from LAST to FIRST, from LAST to LAST (by which it leaves the one, by which it comes "
        + "to the other one).")
    static void lastToFirstBeforeLastToLast() {
        RoadTrace x = spur(true);
        x.fix(10, 5);
        x.fix(10, 20);
        Check.due("its length", x.step(1), 35);
        through("from last to first", x, 0, 4, 5);
        x.drop();
        x.fix(11, 20);
        through("one shorter from last to last", x, 0, 2, 3);
    }

    @Sentence(of = 0, says = "from FIRST to LAST, from LAST to FIRST, from LAST to LAST")
    static void firstToLastBeforeLastToLast() {
        RoadTrace x = spur(true);
        x.fix(10, 20);
        x.fix(10, 5);
        Check.due("its length", x.step(1), 35);
        through("from first to last", x, 5, 4, 0);
    }

    /** Two roads that lead the same way: firsts are beside one another, and so are lasts. */
    @Sentence(of = 0, says = "from FIRST to FIRST, from FIRST to LAST, from LAST to FIRST, from LAST to LAST")
    static void firstToFirstBeforeLastToLast() {
        RoadTrace x = new RoadTrace();
        x.crossing(20, 0);
        x.crossing(20, 10);
        x.crossing(0, 0);
        x.crossing(0, 10);
        x.road(2, 0, 0);
        x.road(3, 1, 0);
        x.road(2, 3, 0);
        x.road(0, 1, 0);
        x.rule(0, 0);
        x.fix(10, 0);
        x.fix(10, 10);
        through("from first to first", x, 2, 3);
        x.drop();
        x.fix(11, 10);
        through("one shorter from last to last", x, 0, 1);
    }

    // ---- Terms 2: between CROSSINGS

    /** From 1 to 6 two ways are equally long: over 2 and 3, or over 4 and 5. */
    private static RoadTrace twoSides(int wayOfTheLesser) {
        RoadTrace x = new RoadTrace();
        int[][] places = {{0, 10}, {10, 10}, {10, 0}, {20, 0}, {10, 20}, {20, 20}, {20, 10}, {30, 10}};
        for (int[] place : places) {
            x.crossing(place[0], place[1]);
        }
        x.road(0, 1, 0);
        x.road(1, 4, 0);
        x.road(4, 5, 0);
        x.road(5, 6, 0);
        x.road(2, 1, wayOfTheLesser);
        x.road(2, 3, 0);
        x.road(3, 6, 0);
        x.road(6, 7, 0);
        x.rule(0, 0);
        x.fix(5, 10);
        x.fix(25, 10);
        return x;
    }

    @Sentence(of = 0, says = "Between CROSSINGS: on from each to the least one")
    static void onToTheLeastCrossing() {
        RoadTrace x = twoSides(0);
        Check.due("its length", x.step(1), 40);
        through("over the lesser ones", x, 1, 2, 3, 6);
    }

    @Sentence(of = 0, says = "to which a ROAD leads,")
    static void onlyWhereARoadLeads() {
        RoadTrace x = twoSides(1);
        Check.due("its length", x.step(1), 40);
        through("the lesser one cannot be reached", x, 1, 4, 5, 6);
    }

    /** A road leads from 1 to 0 and to 2, which are lesser, but they are on no least way. */
    @Sentence(of = 0, says = "if it is on a least way.")
    static void onlyOnALeastWay() {
        RoadTrace x = new RoadTrace();
        int[][] places = {{10, 10}, {10, 20}, {20, 20}, {30, 20}, {10, 30}, {30, 30}};
        for (int[] place : places) {
            x.crossing(place[0], place[1]);
        }
        x.road(0, 1, 0);
        x.road(1, 2, 0);
        x.road(2, 3, 0);
        x.road(1, 4, 0);
        x.road(3, 5, 0);
        x.road(4, 5, 0);
        x.rule(0, 0);
        x.rule(3, 99);
        x.fix(10, 15);
        x.fix(15, 30);
        Check.due("its length", x.step(1), 20);
        through("over 4 alone", x, 1, 4);
    }

    /** From 1 a road leads past the goal to 0, which is lesser and nearer to the goal, but on no least way. */
    @Sentence(of = 0, says = "if it is on a least way.")
    static void notToANearerOneOnNoLeastWay() {
        RoadTrace x = new RoadTrace();
        int[][] places = {{40, 10}, {10, 10}, {20, 10}, {30, 10}, {10, 20}, {30, 20}};
        for (int[] place : places) {
            x.crossing(place[0], place[1]);
        }
        x.road(1, 2, 0);
        x.road(2, 3, 0);
        x.road(1, 0, 0);
        x.road(0, 3, 0);
        x.road(1, 4, 0);
        x.road(3, 5, 0);
        x.rule(0, 0);
        x.fix(10, 15);
        x.fix(30, 15);
        Check.due("its length", x.step(1), 30);
        through("not past the goal and back", x, 1, 2, 3);
    }

    /** As many crossings on one way as there are. */
    @Sentence(of = 0, says = "Between CROSSINGS: on from each")
    static void onOverAllCrossings() {
        RoadTrace x = Nets.twelveRound();
        x.rule(0, 0);
        x.fix(2, 0);
        x.fix(1, 0);
        Check.due("all round but one", x.step(1), 35);
        through("all twelve", x, 1, 2, 3, 4, 5, 6, 7, 8, 9, 10, 11, 0);
        x.drop();
        x.drop();
        x.fix(9, 5);
        x.fix(9, 4);
        through("all twelve from another one", x, 5, 6, 7, 8, 9, 10, 11, 0, 1, 2, 3, 4);
    }

    // ---- 6 between

    @Sentence(of = 6, says = "LENGTH of the least way from one CROSSING to another one;")
    static void theLengthBetween() {
        RoadTrace x = Nets.spiral();
        Check.due("to itself", x.between(11, 11), 0);
        Check.due("to the next", x.between(0, 1), 63);
        Check.due("to the last", x.between(0, 11), 673);
        Check.due("back to the first", x.between(11, 0), 673);
        RoadTrace round = Nets.twelveRound();
        Check.due("round to the next", round.between(0, 1), 3);
        Check.due("round to the one before", round.between(1, 0), 33);
        RoadTrace grid = Nets.fullGrid();
        Check.due("from corner to corner", grid.between(0, 11), 25);
        Check.due("from the other corner", grid.between(8, 3), 25);
    }

    @Sentence(of = 6, says = "LENGTH of the least way from one CROSSING to another one;")
    static void aLaterRoadShortensTheWay() {
        RoadTrace x = Nets.square();
        Check.due("round", x.between(0, 3), 30);
        x.crossing(0, 5);
        x.road(0, 4, 1);
        Check.due("not yet", x.between(0, 3), 30);
        x.road(4, 3, 1);
        Check.due("straight on", x.between(0, 3), 10);
        Check.due("as before", x.between(3, 0), 10);
    }

    @Sentence(of = 6, says = "NONE.")
    static void noWayBetween() {
        RoadTrace x = new RoadTrace();
        x.crossing(0, 0);
        x.crossing(5, 0);
        x.crossing(9, 0);
        Check.due("no road", x.between(0, 1), NONE);
        Check.due("to itself without a road", x.between(0, 0), 0);
        x.road(1, 0, 1);
        x.road(1, 2, 1);
        Check.due("against one way", x.between(0, 1), NONE);
        Check.due("against one way, and on", x.between(0, 2), NONE);
        Check.due("on", x.between(1, 2), 4);
        Check.due("and not back", x.between(2, 1), NONE);
    }

    @Sentence(of = 6, says = "UNKNOWN.")
    static void betweenUnknownCrossings() {
        RoadTrace full = Nets.fullGrid();
        RoadTrace one = new RoadTrace();
        one.crossing(3, 3);
        Check.due("the only one", one.between(0, 0), 0);
        Check.due("past the only one", one.between(0, 1), UNKNOWN);
        Check.due("past the only one", one.between(1, 0), UNKNOWN);
        Check.due("the last one", full.between(11, 11), 0);
        for (int n : new int[] {-1, 12, 13, 100, -12, Integer.MIN_VALUE, Integer.MAX_VALUE}) {
            Check.due("one " + n, full.between(n, 0), UNKNOWN);
            Check.due("other " + n, full.between(0, n), UNKNOWN);
            Check.due("both " + n, full.between(n, n), UNKNOWN);
        }
    }

    // ---- 7 way

    @Sentence(of = 7, says = "LENGTH of the WAY from one SPOT to another one, by codes;")
    static void theLengthOfAWay() {
        RoadTrace x = Nets.fullRow();
        Check.due("the last road's last spot to itself", x.way(1909, 1909), 0);
        Check.due("from the first road to it", x.way(0, 1909), 10);
        Check.due("and back", x.way(1909, 0), 10);
        Check.due("two spots at one crossing", x.way(1909, 910), 0);
        // both lie at one place, but a way leads out of the one road and into the other one
        Check.due("two spots at one place between crossings", Nets.fullGrid().way(1702, 2), 4);
        RoadTrace round = Nets.oneWayRound(63);
        Check.due("back by one, all round", round.way(32, 31), 4 * 63 - 1);
    }

    @Sentence(of = 7, says = "NONE.")
    static void noWayFromSpotToSpot() {
        RoadTrace apart = Nets.sideBySide();
        Check.due("no way between", apart.way(0, 100), NONE);
        Check.due("no way between", apart.way(120, 20), NONE);
        RoadTrace x = new RoadTrace();
        x.crossing(0, 0);
        x.crossing(9, 0);
        x.road(0, 1, 1);
        Check.due("back by one", x.way(5, 4), NONE);
        Check.due("back by all", x.way(9, 0), NONE);
        Check.due("on by all", x.way(0, 9), 9);
        Check.due("to itself", x.way(9, 9), 0);
    }

    @Sentence(of = 7, says = "UNKNOWN: no such SPOT.")
    static void noSuchSpot() {
        RoadTrace x = Nets.fullRow();
        Check.due("the last spot of all", x.way(1909, 0), 10);
        int[] wrong = {-1, -99, -100, -101, 2, 11, 50, 99, 103, 1012, 1102, 1910, 1999, 2000, 2001, 10000,
            Integer.MIN_VALUE, Integer.MIN_VALUE + 48, Integer.MAX_VALUE, Integer.MAX_VALUE - 47};
        for (int spot : wrong) {
            Check.due("one " + spot, x.way(spot, 0), UNKNOWN);
            Check.due("other " + spot, x.way(0, spot), UNKNOWN);
            Check.due("both " + spot, x.way(spot, spot), UNKNOWN);
        }
        RoadTrace none = new RoadTrace();
        none.crossing(0, 0);
        none.crossing(1, 0);
        Check.due("no road yet", none.way(0, 0), UNKNOWN);
        RoadTrace apart = Nets.sideBySide();
        Check.due("UNKNOWN, though there would be no way", apart.way(0, 121), UNKNOWN);
    }
}
