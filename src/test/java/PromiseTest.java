/** Each promise of the document by its number: ordinary calls, the edges it names, and wrong ones. */
public final class PromiseTest {
    private static final int NONE = RoadTrace.NONE;
    private static final int UNKNOWN = RoadTrace.UNKNOWN;
    private static final int OUTSIDE = RoadTrace.OUTSIDE;
    private static final int STATE = RoadTrace.STATE;
    private static final int FULL = RoadTrace.FULL;
    private static final int NO = RoadTrace.NO;
    private static final int[] FAR_OFF = {Integer.MIN_VALUE, -1000, -7, -2, 1000000, Integer.MAX_VALUE};

    public static void main(String[] args) {
        theConstants();
        promise1New();
        promise2Crossing();
        promise2Order();
        promise3Road();
        promise3Order();
        promise3Full();
        promise4Rule();
        promise5Cell();
        promise6Between();
        promise7Way();
        promise7OneWay();
        promise8Fix();
        promise9Drop();
        promise10Candidate();
        promise10Costs();
        promise10Dead();
        promise10ReachAndSlack();
        promise11Best();
        promise12Decided();
        promise13Piece();
        promise14Step();
        promise15Through();
        promise15WaysOut();
        promise15LeastCrossing();
        promise16Total();
        promise16AllFull();
        promise17Image();
        promise18Restore();
        promise19Told();
        Check.end();
    }

    private static void due(String what, long got, long want) {
        Check.due(what, got, want);
    }

    private static void theConstants() {
        due("NONE", RoadTrace.NONE, -6);
        due("UNKNOWN", RoadTrace.UNKNOWN, -1);
        due("OUTSIDE", RoadTrace.OUTSIDE, -2);
        due("STATE", RoadTrace.STATE, -3);
        due("FULL", RoadTrace.FULL, -4);
        due("NO", RoadTrace.NO, -5);
    }

    private static void promise1New() {
        RoadTrace x = new RoadTrace();
        int[] first = {0, 0, 0, 4, 1, 1, 40};
        for (int i = 0; i < first.length; i++) {
            due("1: told(" + i + ") of a new one", x.told(i), first[i]);
        }
        for (int i = 0; i <= 4; i++) {
            due("1: total(" + i + ") of a new one", x.total(i), 0);
        }
        due("1: an image of a new one", x.restore(0), STATE);
        due("1: the other image of a new one", x.restore(1), STATE);
        x.crossing(1, 1);
        due("1: two objects have nothing in common", new RoadTrace().told(0), 0);
    }

    private static void promise2Crossing() {
        RoadTrace x = new RoadTrace();
        due("2: the first", x.crossing(0, 0), 1);
        due("2: another corner", x.crossing(63, 63), 2);
        due("2: the same x", x.crossing(0, 63), 3);
        due("2: the same y", x.crossing(63, 0), 4);
        due("2: one lies there", x.crossing(63, 63), NO);
        due("2: the first one lies there", x.crossing(0, 0), NO);
        due("2: x too great", x.crossing(64, 0), OUTSIDE);
        due("2: y too great", x.crossing(0, 64), OUTSIDE);
        due("2: x too little", x.crossing(-1, 0), OUTSIDE);
        due("2: y too little", x.crossing(0, -1), OUTSIDE);
        for (int n : FAR_OFF) {
            due("2: far off", x.crossing(n, 1), OUTSIDE);
            due("2: far off", x.crossing(1, n), OUTSIDE);
        }
        due("2: refused ones changed nothing", x.told(0), 4);
        for (int i = 5; i <= 12; i++) {
            due("2: more", x.crossing(i, i), i);
        }
        due("2: the 13th", x.crossing(30, 30), FULL);
        due("2: still 12", x.told(0), 12);
    }

    private static void promise2Order() {
        RoadTrace x = new RoadTrace();
        for (int i = 0; i < 12; i++) {
            x.crossing(i, i);
        }
        due("2: NO is before FULL", x.crossing(3, 3), NO);
        x.fix(60, 60);
        due("2: STATE is before NO", x.crossing(3, 3), STATE);
        due("2: STATE is before FULL", x.crossing(50, 3), STATE);
        due("2: OUTSIDE is before STATE", x.crossing(64, 3), OUTSIDE);
        x.drop();
        due("2: without fixes again", x.crossing(50, 3), FULL);
    }

    private static void promise3Road() {
        RoadTrace x = new RoadTrace();
        x.crossing(5, 5);
        x.crossing(9, 5);
        x.crossing(9, 40);
        due("3: by x", x.road(0, 1, 0), 1);
        due("3: by y", x.road(2, 1, 1), 2);
        due("3: not in one row", x.road(0, 2, 0), NO);
        due("3: they are one", x.road(1, 1, 0), NO);
        due("3: they have a road", x.road(0, 1, 1), NO);
        due("3: they have a road the other way", x.road(1, 0, 0), NO);
        due("3: they have a road of one way", x.road(1, 2, 1), NO);
        due("3: no such first", x.road(3, 0, 0), UNKNOWN);
        due("3: no such last", x.road(0, 3, 0), UNKNOWN);
        due("3: way 2", x.road(0, 1, 2), OUTSIDE);
        due("3: way -1", x.road(0, 1, -1), OUTSIDE);
        due("3: minus one", x.road(-1, 0, 0), UNKNOWN);
        for (int n : FAR_OFF) {
            due("3: far off", x.road(n, 0, 0), UNKNOWN);
            due("3: far off", x.road(0, n, 0), UNKNOWN);
            due("3: far off", x.road(0, 1, n), OUTSIDE);
        }
        due("3: refused ones changed nothing", x.told(1), 2);
        due("3: first, last and way", x.told(201), 2011);
    }

    private static void promise3Order() {
        RoadTrace x = Nets.square();
        due("3: UNKNOWN is before OUTSIDE", x.road(0, 4, 2), UNKNOWN);
        due("3: OUTSIDE is before NO", x.road(0, 0, 2), OUTSIDE);
        x.fix(60, 60);
        due("3: STATE is before NO", x.road(0, 0, 0), STATE);
        due("3: OUTSIDE is before STATE", x.road(0, 2, 2), OUTSIDE);
        due("3: UNKNOWN is before STATE", x.road(0, 4, 0), UNKNOWN);
    }

    private static void promise3Full() {
        RoadTrace x = new RoadTrace();
        for (int i = 0; i < 12; i++) {
            x.crossing(3 * i, 7);
        }
        int count = 0;
        for (int i = 0; i < 12 && count < 20; i++) {
            for (int j = i + 1; j < 12 && count < 20; j++) {
                count++;
                due("3: roads over one another", x.road(i, j, 0), count);
            }
        }
        due("3: the 21st", x.road(10, 11, 0), FULL);
        due("3: NO is before FULL", x.road(1, 0, 0), NO);
        due("3: still 20", x.told(1), 20);
    }

    private static void promise4Rule() {
        RoadTrace x = new RoadTrace();
        int[] first = {4, 1, 1, 40};
        int[] most = {8, 9, 9, 99};
        for (int i = 0; i < 4; i++) {
            due("4: what it was at first", x.rule(i, most[i]), first[i]);
            due("4: what it was then", x.rule(i, 0), most[i]);
            due("4: too great", x.rule(i, most[i] + 1), OUTSIDE);
            due("4: too little", x.rule(i, -1), OUTSIDE);
            due("4: what it is now", x.told(3 + i), 0);
            for (int n : FAR_OFF) {
                due("4: far off", x.rule(i, n), OUTSIDE);
            }
        }
        due("4: no such rule", x.rule(4, 0), OUTSIDE);
        due("4: no such rule", x.rule(-1, 0), OUTSIDE);
        for (int n : FAR_OFF) {
            due("4: far off", x.rule(n, 0), OUTSIDE);
        }
        x.fix(1, 1);
        due("4: there are fixes", x.rule(0, 4), STATE);
        due("4: OUTSIDE is before STATE", x.rule(0, 9), OUTSIDE);
        due("4: nothing changed", x.told(3), 0);
        x.drop();
        due("4: there are none again", x.rule(0, 4), 0);
    }

    private static void promise5Cell() {
        RoadTrace x = new RoadTrace();
        x.crossing(7, 20);
        x.crossing(24, 20);
        x.crossing(24, 63);
        x.crossing(24, 15);
        x.road(1, 0, 1);
        x.road(1, 2, 0);
        x.road(3, 1, 0);
        int[][] want = {{0, 2, 1}, {1, 2, 1}, {2, 2, 1}, {3, 2, 3}, {4, 2, 0}, {0, 1, 0}, {3, 1, 1}, {3, 0, 0},
            {3, 3, 1}, {3, 7, 1}, {2, 7, 0}, {7, 7, 0}, {0, 0, 0}};
        for (int[] w : want) {
            due("5: cell(" + w[0] + ", " + w[1] + ")", x.cell(w[0], w[1]), w[2]);
        }
        due("5: x 8", x.cell(8, 0), OUTSIDE);
        due("5: y 8", x.cell(0, 8), OUTSIDE);
        due("5: x -1", x.cell(-1, 0), OUTSIDE);
        due("5: y -1", x.cell(0, -1), OUTSIDE);
        for (int n : FAR_OFF) {
            due("5: far off", x.cell(n, 0), OUTSIDE);
            due("5: far off", x.cell(0, n), OUTSIDE);
        }
    }

    private static void promise6Between() {
        RoadTrace x = Nets.square();
        due("6: along both ways", x.between(1, 0), 10);
        due("6: on, one way", x.between(3, 0), 10);
        due("6: round, as it goes but one way", x.between(0, 3), 30);
        due("6: to itself", x.between(2, 2), 0);
        x.crossing(10, 30);
        due("6: no road yet", x.between(4, 0), NONE);
        due("6: to itself without a road", x.between(4, 4), 0);
        x.road(4, 2, 1);
        due("6: on", x.between(4, 1), 30);
        due("6: no way back", x.between(1, 4), NONE);
        x.crossing(10, 20);
        x.road(2, 5, 0);
        x.road(5, 4, 0);
        due("6: by a road that came later", x.between(1, 4), 30);
        due("6: no such one", x.between(6, 0), UNKNOWN);
        due("6: no such other one", x.between(0, 6), UNKNOWN);
        due("6: minus one", x.between(-1, -1), UNKNOWN);
        for (int n : FAR_OFF) {
            due("6: far off", x.between(n, 0), UNKNOWN);
            due("6: far off", x.between(0, n), UNKNOWN);
        }
        x.fix(1, 1);
        due("6: fixes change nothing of it", x.between(0, 3), 30);
    }

    private static void promise7Way() {
        RoadTrace x = Nets.square();
        due("7: along one road", x.way(2, 7), 5);
        due("7: back along it", x.way(7, 2), 5);
        due("7: to itself", x.way(7, 7), 0);
        due("7: round a corner", x.way(2, 105), 13);
        due("7: from first to first", x.way(101, 3), 8);
        due("7: over two corners", x.way(1, 209), 28);
        due("7: past the length", x.way(11, 0), UNKNOWN);
        due("7: to past the length", x.way(0, 111), UNKNOWN);
        due("7: at the length", x.way(10, 100), 0);
        due("7: no such road", x.way(400, 0), UNKNOWN);
        due("7: to no such road", x.way(0, 400), UNKNOWN);
        due("7: minus one", x.way(-1, 0), UNKNOWN);
        due("7: minus 100", x.way(0, -100), UNKNOWN);
        for (int n : FAR_OFF) {
            due("7: far off", x.way(n, 0), UNKNOWN);
            due("7: far off", x.way(0, n), UNKNOWN);
        }
        due("7: a new object has no spot", new RoadTrace().way(0, 0), UNKNOWN);
    }

    private static void promise7OneWay() {
        RoadTrace x = Nets.square();
        due("7: on, one way", x.way(302, 305), 3);
        due("7: all round", x.way(305, 302), 37);
        due("7: to itself, one way", x.way(305, 305), 0);
        due("7: in from first", x.way(209, 301), 2);
        due("7: not back to first, not even from it", x.way(300, 210), 40);
        due("7: not in from last, not even to it", x.way(0, 310), 40);
        due("7: out by last", x.way(308, 3), 5);
        x.crossing(20, 10);
        x.road(4, 2, 1);
        due("7: no way back", x.way(405, 401), NONE);
        due("7: no way to", x.way(0, 405), NONE);
        due("7: on and out", x.way(405, 1), 24);
        RoadTrace apart = Nets.sideBySide();
        due("7: no way between", apart.way(5, 105), NONE);
    }

    private static void promise8Fix() {
        RoadTrace x = Nets.square();
        due("8: x too great", x.fix(64, 0), OUTSIDE);
        due("8: y too great", x.fix(0, 64), OUTSIDE);
        due("8: x too little", x.fix(-1, 0), OUTSIDE);
        due("8: y too little", x.fix(0, -1), OUTSIDE);
        for (int n : FAR_OFF) {
            due("8: far off", x.fix(n, 0), OUTSIDE);
            due("8: far off", x.fix(0, n), OUTSIDE);
        }
        due("8: refused ones changed nothing", x.told(2), 0);
        for (int i = 1; i <= 16; i++) {
            due("8: they may lie at one place", x.fix(63, 0), i);
        }
        due("8: the 17th", x.fix(1, 1), FULL);
        due("8: OUTSIDE is before FULL", x.fix(1, 64), OUTSIDE);
        due("8: still 16", x.told(2), 16);
        due("8: without a net", new RoadTrace().fix(0, 0), 1);
    }

    private static void promise9Drop() {
        RoadTrace x = Nets.sideBySide();
        due("9: none", x.drop(), NO);
        x.fix(5, 2);
        x.fix(9, 1);
        due("9: before", x.best(0), 5);
        x.fix(13, 4);
        due("9: the last one turns it", x.best(0), 105);
        due("9: one goes", x.drop(), 2);
        due("9: it is as before", x.best(0), 5);
        due("9: it is gone", x.best(2), UNKNOWN);
        x.fix(50, 50);
        due("9: one in its stead", x.piece(2), NONE);
        due("9: that has no candidates", x.candidate(2, -1, 0), 0);
        due("9: all go", x.drop() + x.drop() + x.drop(), 2 + 1 + 0);
        due("9: none again", x.drop(), NO);
        due("9: the net may grow again", x.crossing(30, 30), 5);
    }

    private static void promise10Candidate() {
        RoadTrace x = Nets.square();
        x.fix(2, 1);
        x.fix(30, 30);
        due("10: how many", x.candidate(0, -1, 0), 2);
        due("10: how many, whatever is asked of it", x.candidate(0, -1, 3), 2);
        due("10: the spot", x.candidate(0, 0, 0), 2);
        due("10: apart", x.candidate(0, 0, 1), 1);
        due("10: the spot, from first", x.candidate(0, 1, 0), 309);
        due("10: apart", x.candidate(0, 1, 1), 2);
        due("10: cost", x.candidate(0, 1, 2), 2);
        due("10: back", x.candidate(0, 1, 3), NONE);
        due("10: a gap has none", x.candidate(1, -1, 0), 0);
        due("10: of a gap", x.candidate(1, 0, 0), NONE);
        due("10: no such fix", x.candidate(2, 0, 0), UNKNOWN);
        due("10: minus one", x.candidate(-1, 0, 0), UNKNOWN);
        due("10: what 4", x.candidate(0, 0, 4), OUTSIDE);
        due("10: what -1", x.candidate(0, 0, -1), OUTSIDE);
        due("10: what is looked at for their count too", x.candidate(0, -1, 4), OUTSIDE);
        due("10: OUTSIDE is before NONE", x.candidate(0, 9, 4), OUTSIDE);
        due("10: UNKNOWN is before OUTSIDE", x.candidate(2, 0, 4), UNKNOWN);
        for (int what = 0; what < 4; what++) {
            due("10: no such one", x.candidate(0, 2, what), NONE);
            due("10: no such one", x.candidate(0, 20, what), NONE);
            for (int n : FAR_OFF) {
                due("10: far off", x.candidate(0, n, what), NONE);
                due("10: far off", x.candidate(n, 0, what), UNKNOWN);
            }
        }
    }

    private static void promise10Costs() {
        RoadTrace x = Nets.square();
        x.rule(1, 3);
        x.rule(2, 5);
        x.fix(2, 1);
        x.fix(7, 2);
        due("10: three times off", x.candidate(0, 0, 2), 3);
        due("10: three times off", x.candidate(0, 1, 2), 6);
        // a way of 5 where 6 would be straight on: less costs as much as more
        due("10: off, and a step", x.candidate(1, 0, 2), 3 + 5 * 1 + 3 * 2);
        due("10: back", x.candidate(1, 0, 3), 0);
        due("10: round the corner", x.candidate(1, 1, 0), 102);
        due("10: a way of 10 where 6 is straight on", x.candidate(1, 1, 2), 3 + 5 * 4 + 3 * 3);
        RoadTrace same = Nets.square();
        same.rule(3, 99);
        same.fix(0, 2);
        same.fix(0, 6);
        RoadTrace back = Nets.square();
        back.fix(7, 2);
        back.fix(2, 1);
        due("10: straight on is the same from either side", back.candidate(1, 0, 2), 4);
        due("10: as little from both: the least road", same.candidate(1, 1, 3), 0);
        due("10: the cost of it", same.candidate(1, 1, 2), 32);
    }

    private static void promise10Dead() {
        RoadTrace x = Nets.square();
        x.rule(3, 0);
        x.fix(0, 6);
        x.fix(0, 4);
        due("10: dead", x.candidate(1, 0, 2), NONE);
        due("10: dead, back", x.candidate(1, 0, 3), NONE);
        due("10: dead, its spot", x.candidate(1, 0, 0), 0);
        due("10: dead, apart", x.candidate(1, 0, 1), 4);
        due("10: not dead", x.candidate(1, 1, 2), 0);
        due("10: not dead, back", x.candidate(1, 1, 3), 1);
        due("10: best is not the dead one", x.best(1), 306);
        RoadTrace apart = Nets.sideBySide();
        apart.rule(0, 3);
        apart.fix(5, 5);
        apart.fix(9, 2);
        due("10: dead, as there is no way", apart.candidate(1, 0, 2), NONE);
        // a way leads here from the dead one, and from no other one
        apart.fix(13, 0);
        due("10: no step is from a dead one", apart.piece(2), 1);
        due("10: none is dead where a piece begins", apart.candidate(2, 0, 2), 0);
        due("10: and none has a back there", apart.candidate(2, 0, 3), NONE);
    }

    private static void promise10ReachAndSlack() {
        RoadTrace x = Nets.sideBySide();
        x.fix(3, 8);
        due("10: just in reach", x.candidate(0, -1, 0), 1);
        x.drop();
        x.fix(3, 9);
        due("10: just out of reach", x.candidate(0, -1, 0), 0);
        x.drop();
        x.fix(22, 2);
        due("10: past its end", x.candidate(0, 0, 0), 20);
        due("10: past its end, apart", x.candidate(0, 0, 1), 4);
        x.drop();
        x.rule(0, 0);
        x.fix(3, 0);
        due("10: reach 0, on the road", x.candidate(0, -1, 0), 1);
        x.fix(3, 1);
        due("10: reach 0, off the road", x.candidate(1, -1, 0), 0);
        RoadTrace round = Nets.square();
        round.rule(0, 0);
        round.rule(3, 32);
        round.fix(0, 2);
        round.fix(0, 6);
        due("10: just no longer than slack", round.piece(1), 0);
        due("10: its cost", round.candidate(1, 0, 2), 32);
        round.drop();
        round.drop();
        round.rule(3, 31);
        round.fix(0, 2);
        round.fix(0, 6);
        due("10: just longer than slack", round.piece(1), 1);
    }

    private static void promise11Best() {
        RoadTrace x = Nets.sideBySide();
        x.fix(5, 2);
        due("11: of as little the least road", x.best(0), 5);
        x.fix(9, 2);
        x.fix(13, 3);
        due("11: by back", x.best(0), 105);
        due("11: by back", x.best(1), 109);
        due("11: the last one", x.best(2), 113);
        x.fix(40, 40);
        due("11: a gap", x.best(3), NONE);
        due("11: over a gap it stays", x.best(2), 113);
        x.fix(17, 0);
        due("11: what comes later turns it", x.best(0), 5);
        due("11: no such fix", x.best(5), UNKNOWN);
        due("11: minus one", x.best(-1), UNKNOWN);
        for (int n : FAR_OFF) {
            due("11: far off", x.best(n), UNKNOWN);
        }
    }

    private static void promise12Decided() {
        RoadTrace x = Nets.sideBySide();
        x.rule(0, 3);
        x.fix(5, 2);
        x.fix(9, 2);
        due("12: two are left", x.decided(0), NONE);
        x.fix(13, 5);
        due("12: one is left", x.decided(2), 113);
        due("12: all come from one", x.decided(0), 105);
        due("12: all come from one", x.decided(1), 109);
        x.fix(17, 2);
        due("12: one is dead", x.candidate(3, 0, 2), NONE);
        due("12: it stays as it is", x.decided(0), 105);
        due("12: the last one, one not dead", x.decided(3), 117);
        x.fix(60, 60);
        due("12: a gap", x.decided(4), NONE);
        due("12: a gap changes nothing", x.decided(3), 117);
        x.fix(17, 0);
        due("12: another piece began", x.piece(5), 1);
        due("12: its only candidate", x.decided(5), 17);
        due("12: so it is decided", x.decided(3), 117);
        due("12: no such fix", x.decided(6), UNKNOWN);
        due("12: minus one", x.decided(-1), UNKNOWN);
        for (int n : FAR_OFF) {
            due("12: far off", x.decided(n), UNKNOWN);
        }
        promise12OtherPiece();
    }

    private static void promise12OtherPiece() {
        RoadTrace x = Nets.sideBySide();
        x.crossing(40, 40);
        x.crossing(50, 40);
        x.road(4, 5, 0);
        x.fix(5, 2);
        x.fix(63, 0);
        due("12: a gap begins no piece", x.decided(0), NONE);
        x.fix(45, 41);
        due("12: another piece decides all before", x.decided(0), 5);
        x.drop();
        due("12: without it, it is open again", x.decided(0), NONE);
    }

    private static void promise13Piece() {
        RoadTrace x = Nets.square();
        x.rule(3, 0);
        x.fix(40, 40);
        due("13: a gap at first", x.piece(0), NONE);
        x.fix(0, 2);
        due("13: the first one", x.piece(1), 0);
        x.fix(0, 6);
        due("13: no way is short enough", x.piece(2), 1);
        x.fix(0, 4);
        due("13: it goes on", x.piece(3), 1);
        x.fix(50, 50);
        due("13: a gap", x.piece(4), NONE);
        x.fix(0, 3);
        due("13: it goes on over the gap", x.piece(5), 1);
        x.fix(0, 9);
        due("13: another one", x.piece(6), 2);
        due("13: those before stay", x.piece(1), 0);
        due("13: no such fix", x.piece(7), UNKNOWN);
        due("13: minus one", x.piece(-1), UNKNOWN);
        for (int n : FAR_OFF) {
            due("13: far off", x.piece(n), UNKNOWN);
        }
    }

    private static void promise14Step() {
        RoadTrace x = Nets.square();
        x.fix(2, 1);
        x.fix(7, 2);
        x.fix(40, 40);
        x.fix(10, 6);
        due("14: it begins a piece", x.step(0), NONE);
        due("14: along a road", x.step(1), 5);
        due("14: a gap", x.step(2), NONE);
        due("14: over the gap, round a corner", x.step(3), 9);
        due("14: no such fix", x.step(4), UNKNOWN);
        due("14: minus one", x.step(-1), UNKNOWN);
        for (int n : FAR_OFF) {
            due("14: far off", x.step(n), UNKNOWN);
        }
        RoadTrace y = Nets.square();
        y.rule(3, 0);
        y.fix(0, 2);
        y.fix(0, 6);
        due("14: it begins another piece", y.step(1), NONE);
    }

    private static void promise15Through() {
        RoadTrace x = Nets.square();
        x.rule(0, 0);
        x.rule(3, 99);
        x.fix(4, 0);
        x.fix(6, 0);
        x.fix(63, 63);
        x.fix(4, 10);
        due("15: it begins a piece", x.through(0, 0), NONE);
        due("15: along a road", x.through(1, 0), NONE);
        due("15: a gap", x.through(2, 0), NONE);
        due("15: the first", x.through(3, 0), 1);
        due("15: the next", x.through(3, 1), 2);
        due("15: no third", x.through(3, 2), NONE);
        due("15: far past", x.through(3, 12), NONE);
        due("15: minus one", x.through(3, -1), NONE);
        due("15: no such fix", x.through(4, 0), UNKNOWN);
        due("15: no such fix", x.through(-1, 0), UNKNOWN);
        for (int n : FAR_OFF) {
            due("15: far off", x.through(3, n), NONE);
            due("15: far off", x.through(n, 0), UNKNOWN);
        }
        RoadTrace round = Nets.square();
        round.rule(0, 0);
        round.rule(3, 99);
        round.fix(0, 5);
        round.fix(0, 8);
        for (int k = 0; k < 4; k++) {
            due("15: all round, out of a road and into it", round.through(1, k), k);
        }
        due("15: no fifth", round.through(1, 4), NONE);
    }

    /** A fix at a crossing lies on each road there; reach 0 and but one road there leave one candidate each. */
    private static void promise15WaysOut() {
        RoadTrace x = new RoadTrace();
        x.crossing(10, 10);
        x.crossing(20, 10);
        x.crossing(20, 20);
        x.crossing(10, 20);
        x.road(0, 1, 0);
        x.road(3, 2, 0);
        x.road(0, 3, 0);
        x.road(1, 2, 0);
        x.rule(0, 0);
        x.fix(15, 10);
        x.fix(15, 20);
        due("15: 15 from first to first", x.step(1), 20);
        due("15: of as little from first to first", x.through(1, 0), 0);
        due("15: to first", x.through(1, 1), 3);
        due("15: to first, no third", x.through(1, 2), NONE);
        x.fix(16, 10);
        due("15: from last to last", x.through(2, 0), 2);
        due("15: to last", x.through(2, 1), 1);
        x.drop();
        x.drop();
        x.fix(20, 17);
        due("15: from last to first", x.through(1, 0), 1);
        due("15: from last to first alone", x.through(1, 1), NONE);
        x.fix(18, 20);
        due("15: from last to last", x.through(2, 0), 2);
        x.drop();
        x.drop();
        x.drop();
        x.fix(10, 15);
        x.fix(20, 15);
        due("15: from first to first again", x.through(1, 0), 0);
        due("15: and on", x.through(1, 1), 1);
    }

    /** Six crossings, of which two ways round are equally long: the lesser crossing is taken. */
    private static void promise15LeastCrossing() {
        for (int turned = 0; turned <= 1; turned++) {
            RoadTrace x = new RoadTrace();
            x.crossing(0, 10);
            x.crossing(10, 10);
            x.crossing(10, turned == 0 ? 20 : 10 - 10);
            x.crossing(10, turned == 0 ? 0 : 20);
            x.crossing(20, 20);
            x.crossing(20, 0);
            x.crossing(20, 10);
            x.crossing(30, 10);
            x.road(0, 1, 0);
            x.road(1, 3, 0);
            x.road(1, 2, 0);
            x.road(turned == 0 ? 2 : 3, 4, 0);
            x.road(turned == 0 ? 3 : 2, 5, 0);
            x.road(4, 6, 0);
            x.road(5, 6, 0);
            x.road(6, 7, 0);
            x.rule(0, 0);
            x.fix(5, 10);
            x.fix(25, 10);
            due("15: its length", x.step(1), 40);
            int[] want = {1, 2, turned == 0 ? 4 : 5, 6, NONE};
            for (int k = 0; k < want.length; k++) {
                due("15: by the lesser crossing", x.through(1, k), want[k]);
            }
        }
    }

    private static void promise16Total() {
        RoadTrace x = Nets.square();
        x.rule(3, 0);
        x.fix(40, 40);
        x.fix(1, 3);
        x.fix(0, 6);
        x.fix(0, 4);
        x.fix(50, 50);
        due("16: costs of all pieces", x.total(0), 1);
        due("16: pieces", x.total(1), 2);
        due("16: gaps", x.total(2), 2);
        due("16: decided", x.total(3), 3);
        due("16: lengths", x.total(4), 2);
        due("16: what 5", x.total(5), OUTSIDE);
        due("16: what -1", x.total(-1), OUTSIDE);
        for (int n : FAR_OFF) {
            due("16: far off", x.total(n), OUTSIDE);
        }
        RoadTrace gaps = Nets.square();
        gaps.fix(40, 40);
        int[] want = {0, 0, 1, 0, 0};
        for (int what = 0; what < want.length; what++) {
            due("16: with gaps alone", gaps.total(what), want[what]);
        }
        RoadTrace y = Nets.square();
        y.fix(2, 1);
        y.fix(7, 2);
        y.fix(10, 6);
        int[] of = {6, 1, 0, 1, 14};
        for (int what = 0; what < of.length; what++) {
            due("16: one piece", y.total(what), of[what]);
        }
    }

    /** As many crossings, roads, fixes and candidates as there can be. */
    private static void promise16AllFull() {
        RoadTrace x = Nets.fullRow();
        x.rule(0, 8);
        for (int i = 0; i < 16; i++) {
            due("16: another fix", x.fix(5 + i % 2, 7), i + 1);
            due("16: near all roads", x.candidate(i, -1, 0), 20);
        }
        due("16: the least road that has both places", x.best(0), 505);
        due("16: at the last fix too", x.best(15), 506);
        due("16: the last candidate of all", x.candidate(15, 19, 0), 1905);
        due("16: no cost", x.total(0), 0);
        due("16: one piece", x.total(1), 1);
        due("16: no gap", x.total(2), 0);
        due("16: to and fro", x.total(4), 15);
        due("16: the image of it", x.image(1), 1);
        due("16: all go", Nets.dropAll(x), 0);
        for (int i = 0; i < 16; i++) {
            x.fix(63, 63);
        }
        due("16: gaps alone", x.total(2), 16);
        due("16: gaps cost nothing", x.total(0), 0);
        due("16: gaps are not decided", x.total(3), 0);
        x.drop();
        due("16: the last of all fixes begins a piece", x.fix(5, 7), 16);
        due("16: with all candidates", x.candidate(15, 19, 2), 0);
        due("16: the first piece", x.total(1), 1);
        due("16: back to the image", x.restore(1), 1);
        due("16: as in the image", x.total(4), 15);
    }

    private static void promise17Image() {
        RoadTrace x = Nets.square();
        due("17: image 0", x.image(0), 1);
        due("17: image 1", x.image(1), 1);
        due("17: image 0 again", x.image(0), 1);
        due("17: image 2", x.image(2), OUTSIDE);
        due("17: image -1", x.image(-1), OUTSIDE);
        for (int n : FAR_OFF) {
            due("17: far off", x.image(n), OUTSIDE);
        }
        x.fix(2, 1);
        x.image(0);
        x.fix(7, 2);
        x.image(0);
        x.drop();
        x.drop();
        due("17: the later image is kept", x.restore(0), 1);
        due("17: the later image is kept", x.told(2), 2);
        due("17: the other one has its own", x.restore(1), 1);
        due("17: the other one has its own", x.told(2), 0);
    }

    private static void promise18Restore() {
        RoadTrace x = Nets.square();
        due("18: it was not kept", x.restore(0), STATE);
        due("18: restore 2", x.restore(2), OUTSIDE);
        due("18: restore -1", x.restore(-1), OUTSIDE);
        for (int n : FAR_OFF) {
            due("18: far off", x.restore(n), OUTSIDE);
        }
        x.image(1);
        due("18: the other one was not kept", x.restore(0), STATE);
        x.rule(0, 5);
        x.crossing(30, 0);
        x.road(1, 4, 0);
        x.fix(2, 1);
        x.fix(7, 2);
        x.fix(10, 6);
        x.image(0);
        due("18: fixes may be there", x.restore(1), 1);
        int[] empty = {4, 4, 0, 4, 1, 1, 40};
        for (int i = 0; i < empty.length; i++) {
            due("18: told(" + i + ") as it was", x.told(i), empty[i]);
        }
        due("18: no such crossing", x.between(0, 4), UNKNOWN);
        due("18: the road is gone from its cell", x.cell(2, 0), 0);
        due("18: crossings may come", x.crossing(0, 30), 5);
        due("18: it has no road", x.between(4, 0), NONE);
        due("18: the image with fixes", x.restore(0), 1);
        due("18: its crossing", x.told(104), 3000);
        due("18: its road", x.between(0, 4), 30);
        due("18: its rule", x.told(3), 5);
        due("18: its best", x.best(2), 106);
        due("18: its decided", x.decided(0), 2);
        due("18: its step", x.step(2), 9);
        due("18: its costs", x.total(0), 6);
        due("18: its cost", x.candidate(1, 0, 2), 4);
        x.drop();
        x.fix(40, 40);
        due("18: changes leave the image alone", x.restore(0), 1);
        due("18: changes leave the image alone", x.best(2), 106);
        due("18: it goes on", x.fix(10, 9), 4);
    }

    private static void promise19Told() {
        RoadTrace x = Nets.square();
        x.crossing(63, 7);
        x.rule(0, 8);
        x.rule(1, 9);
        x.rule(2, 7);
        x.rule(3, 99);
        x.fix(63, 5);
        x.fix(0, 63);
        int[][] want = {{0, 5}, {1, 4}, {2, 2}, {3, 8}, {4, 9}, {5, 7}, {6, 99}, {7, OUTSIDE}, {99, OUTSIDE},
            {100, 0}, {101, 1000}, {103, 10}, {104, 6307}, {105, OUTSIDE}, {112, OUTSIDE}, {199, OUTSIDE},
            {200, 10}, {201, 1020}, {203, 3001}, {204, OUTSIDE}, {220, OUTSIDE}, {299, OUTSIDE},
            {300, 6305}, {301, 63}, {302, OUTSIDE}, {316, OUTSIDE}, {400, OUTSIDE}, {-1, OUTSIDE}, {-100, OUTSIDE}};
        for (int[] w : want) {
            due("19: told(" + w[0] + ")", x.told(w[0]), w[1]);
        }
        for (int n : FAR_OFF) {
            due("19: far off", x.told(n), OUTSIDE);
        }
        x.drop();
        due("19: a fix that is gone", x.told(301), OUTSIDE);
        RoadTrace full = new RoadTrace();
        for (int i = 0; i < 12; i++) {
            full.crossing(i, 0);
        }
        full.road(11, 10, 1);
        due("19: crossings of two figures", full.told(200), 11101);
    }
}
