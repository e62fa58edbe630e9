/** Images, and what is told: the promises 17 to 19. */
final class KeptBoundaries {
    private static final int UNKNOWN = RoadTrace.UNKNOWN;
    private static final int OUTSIDE = RoadTrace.OUTSIDE;
    private static final int STATE = RoadTrace.STATE;
    private static final int FULL = RoadTrace.FULL;
    private static final int NO = RoadTrace.NO;
    private static final int[] NO_IMAGE = {-1, 2, 3, 100, Integer.MIN_VALUE, Integer.MAX_VALUE};

    private KeptBoundaries() {
    }

    /** All that there can be: crossings, roads, rules, fixes. */
    private static RoadTrace fullObject() {
        RoadTrace x = Nets.fullGrid();
        x.rule(0, 8);
        x.rule(1, 9);
        x.rule(2, 9);
        x.rule(3, 99);
        for (int i = 0; i < 16; i++) {
            x.fix(i * 7 % 16, i * 5 % 12);
        }
        return x;
    }

    // ---- 17 image

    @Sentence(of = 17, says = "All is kept in an IMAGE (0, 1): 1.")
    static void allIsKept() {
        RoadTrace x = fullObject();
        String full = Seen.all(x);
        Check.due("image 0", x.image(0), 1);
        Check.isTrue("an image changes nothing", full.equals(Seen.all(x)));
        Nets.dropAll(x);
        x.rule(0, 0);
        x.rule(1, 0);
        x.rule(2, 0);
        x.rule(3, 0);
        Nets.manyFixes(x, 3, 5, 5);
        String other = Seen.all(x);
        Check.due("image 1", x.image(1), 1);
        x.restore(0);
        Check.isTrue("all of image 0", full.equals(Seen.all(x)));
        x.restore(1);
        Check.isTrue("all of image 1", other.equals(Seen.all(x)));
    }

    @Sentence(of = 17, says = "All is kept in an IMAGE (0, 1): 1.")
    static void theLaterImageIsKept() {
        RoadTrace x = Nets.oneRoad();
        x.image(0);
        x.fix(15, 20);
        Check.due("once more", x.image(0), 1);
        x.fix(15, 20);
        Check.due("and once more", x.image(0), 1);
        Nets.dropAll(x);
        x.restore(0);
        Check.due("the last one is kept", x.told(2), 2);
    }

    @Sentence(of = 17, says = "All is kept in an IMAGE (0, 1): 1.")
    static void anImageOfNothing() {
        RoadTrace x = new RoadTrace();
        String empty = Seen.all(x);
        Check.due("of a new object", x.image(1), 1);
        x.crossing(0, 0);
        x.crossing(9, 0);
        x.road(0, 1, 0);
        x.rule(0, 8);
        x.fix(3, 3);
        Check.due("back to it", x.restore(1), 1);
        Check.isTrue("as a new object", empty.equals(Seen.all(x)));
        Check.due("the first crossing may lie where one lay", x.crossing(9, 0), 1);
        Check.due("the road is gone", x.way(0, 0), UNKNOWN);
        Check.due("no fix to drop", x.drop(), NO);
    }

    @Sentence(of = 17, says = "OUTSIDE.")
    static void imagesOutside() {
        RoadTrace x = Nets.oneRoad();
        for (int n : NO_IMAGE) {
            Check.due("image(" + n + ")", x.image(n), OUTSIDE);
        }
        Check.due("none was kept", x.restore(0), STATE);
        Check.due("none was kept", x.restore(1), STATE);
    }

    // ---- 18 restore

    @Sentence(of = 18, says = "It is as it was when it was kept: 1.")
    static void asItWasWhenItWasKept() {
        RoadTrace x = Nets.square();
        x.image(0);
        x.crossing(30, 0);
        x.road(1, 4, 0);
        x.rule(3, 0);
        x.fix(2, 1);
        Check.due("though there are fixes", x.restore(0), 1);
        Check.due("crossings", x.told(0), 4);
        Check.due("roads", x.told(1), 4);
        Check.due("fixes", x.told(2), 0);
        Check.due("the rule", x.told(6), 40);
        Check.due("no such crossing", x.between(0, 4), UNKNOWN);
        Check.due("no such road", x.way(400, 0), UNKNOWN);
        Check.due("not in its cell", x.cell(3, 0), 0);
        Check.due("it goes on as then", x.crossing(0, 30), 5);
        Check.due("and has no road", x.between(4, 0), RoadTrace.NONE);
    }

    @Sentence(of = 18, says = "It is as it was when it was kept: 1.")
    static void anImageIsRestoredOftener() {
        RoadTrace x = fullObject();
        x.image(1);
        String full = Seen.all(x);
        for (int i = 0; i < 3; i++) {
            Nets.dropAll(x);
            x.rule(0, i);
            Nets.manyFixes(x, 16, 60, 60);
            Check.due("restored", x.restore(1), 1);
            Check.isTrue("all is as it was, " + i, full.equals(Seen.all(x)));
        }
        Check.due("it is full as then", x.fix(0, 0), FULL);
        Check.due("one goes", x.drop(), 15);
        Check.due("one comes", x.fix(15 * 7 % 16, 15 * 5 % 12), 16);
        Check.isTrue("it goes on as then", full.equals(Seen.all(x)));
    }

    @Sentence(of = 18, says = "It is as it was when it was kept: 1.")
    static void whatComesAfterLeavesTheImages() {
        RoadTrace x = Nets.sideBySide();
        x.fix(5, 2);
        x.image(0);
        String kept = Seen.all(x);
        x.restore(0);
        x.fix(9, 4);
        x.fix(13, 4);
        x.image(1);
        x.restore(0);
        Check.isTrue("image 0", kept.equals(Seen.all(x)));
        x.drop();
        x.crossing(63, 63);
        x.restore(1);
        Check.due("image 1: fixes", x.told(2), 3);
        Check.due("image 1: best", x.best(0), 105);
        Check.due("image 1: crossings", x.told(0), 4);
        x.restore(0);
        Check.isTrue("image 0 again", kept.equals(Seen.all(x)));
    }

    /** Both images are of nets that have nothing in common, not even how many crossings there are. */
    @Sentence(of = 18, says = "It is as it was when it was kept: 1.")
    static void imagesOfTwoNets() {
        RoadTrace x = new RoadTrace();
        x.image(1);
        int[][] places = {{50, 40}, {50, 60}, {40, 60}, {40, 40}, {30, 40}};
        for (int[] place : places) {
            x.crossing(place[0], place[1]);
        }
        x.road(4, 3, 1);
        x.road(3, 2, 1);
        x.road(2, 1, 0);
        x.road(1, 0, 0);
        x.fix(41, 50);
        x.fix(45, 59);
        String one = Seen.all(x);
        int oneWay = x.way(3, 301);
        x.image(0);
        x.restore(1);
        x.crossing(0, 0);
        x.crossing(0, 9);
        x.crossing(9, 9);
        x.road(1, 0, 0);
        x.road(1, 2, 1);
        x.fix(1, 1);
        String other = Seen.all(x);
        x.image(1);
        for (int i = 0; i < 2; i++) {
            x.restore(0);
            Check.isTrue("the one net", one.equals(Seen.all(x)));
            Check.due("a way in it", x.way(3, 301), oneWay);
            x.restore(1);
            Check.isTrue("the other net", other.equals(Seen.all(x)));
            Check.due("a way in it", x.way(9, 109), 18);
        }
    }

    @Sentence(of = 18, says = "OUTSIDE;")
    static void restoreOutside() {
        RoadTrace x = Nets.oneRoad();
        for (int n : NO_IMAGE) {
            Check.due("restore(" + n + "), none kept", x.restore(n), OUTSIDE);
        }
        x.image(0);
        x.image(1);
        for (int n : NO_IMAGE) {
            Check.due("restore(" + n + "), both kept", x.restore(n), OUTSIDE);
        }
    }

    @Sentence(of = 18, says = "STATE: it was not.")
    static void restoreOfWhatWasNotKept() {
        RoadTrace x = Nets.oneRoad();
        Check.due("image 0 was not", x.restore(0), STATE);
        Check.due("image 1 was not", x.restore(1), STATE);
        x.image(1);
        Check.due("image 0 still was not", x.restore(0), STATE);
        Check.due("image 1 was", x.restore(1), 1);
        Check.due("image 0 still was not, after that", x.restore(0), STATE);
        x.image(0);
        Check.due("now it was", x.restore(0), 1);
    }

    // ---- 19 told

    @Sentence(of = 19, says = "0 CROSSINGS, 1 ROADS, 2 FIXES, 3 to 6 the RULES;")
    static void countsAndRules() {
        RoadTrace x = new RoadTrace();
        int[] atFirst = {0, 0, 0, 4, 1, 1, 40};
        for (int what = 0; what < 7; what++) {
            Check.due("told(" + what + ") at first", x.told(what), atFirst[what]);
        }
        RoadTrace full = fullObject();
        int[] most = {12, 20, 16, 8, 9, 9, 99};
        for (int what = 0; what < 7; what++) {
            Check.due("told(" + what + ") at most", full.told(what), most[what]);
        }
    }

    @Sentence(of = 19, says = "100 and a CROSSING: 100 times its X, and its Y;")
    static void crossingsTold() {
        RoadTrace x = new RoadTrace();
        int[][] places = {{0, 0}, {63, 63}, {0, 63}, {63, 0}};
        for (int i = 0; i < 4; i++) {
            Check.due("before it comes", x.told(100 + i), OUTSIDE);
            x.crossing(places[i][0], places[i][1]);
            Check.due("crossing " + i, x.told(100 + i), 100 * places[i][0] + places[i][1]);
        }
        Check.due("the last of all", Nets.fullRow().told(111), 1107);
        Check.due("past the last of all", Nets.fullRow().told(112), OUTSIDE);
    }

    @Sentence(of = 19, says = "200 and a ROAD: 1000 times FIRST, 10 times LAST, and its WAY;")
    static void roadsTold() {
        RoadTrace x = new RoadTrace();
        for (int i = 0; i < 12; i++) {
            x.crossing(i, 0);
        }
        int[][] roads = {{11, 10, 1}, {0, 1, 0}, {10, 0, 0}, {0, 11, 1}};
        for (int i = 0; i < 4; i++) {
            Check.due("before it comes", x.told(200 + i), OUTSIDE);
            x.road(roads[i][0], roads[i][1], roads[i][2]);
            Check.due("road " + i, x.told(200 + i), 1000 * roads[i][0] + 10 * roads[i][1] + roads[i][2]);
        }
        Check.due("the last of all", Nets.fullGrid().told(219), 81);
        Check.due("past the last of all", Nets.fullGrid().told(220), OUTSIDE);
    }

    @Sentence(of = 19, says = "300 and a FIX: 100 times its X, and its Y.")
    static void fixesTold() {
        RoadTrace x = Nets.oneRoad();
        for (int i = 0; i < 16; i++) {
            Check.due("before it comes", x.told(300 + i), OUTSIDE);
            x.fix(63 - i, i * 4);
            Check.due("fix " + i, x.told(300 + i), 100 * (63 - i) + i * 4);
        }
        Check.due("past the last of all", x.told(316), OUTSIDE);
        x.drop();
        Check.due("when it is gone", x.told(315), OUTSIDE);
        x.fix(63, 63);
        Check.due("another one in its stead", x.told(315), 6363);
    }

    @Sentence(of = 19, says = "OUTSIDE.")
    static void toldOutside() {
        RoadTrace full = fullObject();
        int[] wrong = {-1, -6, -99, -100, -101, -200, -300, 7, 8, 50, 99, 112, 150, 199, 220, 250, 299, 316, 350, 399,
            400, 401, 500, 1000, 1100, 10000, Integer.MIN_VALUE, Integer.MIN_VALUE + 48, Integer.MAX_VALUE,
            Integer.MAX_VALUE - 47};
        for (int what : wrong) {
            Check.due("told(" + what + ")", full.told(what), OUTSIDE);
            Check.due("told(" + what + ") of a new object", new RoadTrace().told(what), OUTSIDE);
        }
        for (int what : new int[] {100, 111, 200, 219, 300, 315}) {
            Check.due("told(" + what + ") of a new object", new RoadTrace().told(what), OUTSIDE);
        }
    }
}
