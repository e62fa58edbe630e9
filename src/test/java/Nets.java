/** Nets that several tests begin with. */
final class Nets {
    private Nets() {
    }

    /** A square of four crossings, ten wide; the road from 3 up to 0 goes but one way. */
    static RoadTrace square() {
        RoadTrace x = new RoadTrace();
        x.crossing(0, 0);
        x.crossing(10, 0);
        x.crossing(10, 10);
        x.crossing(0, 10);
        x.road(0, 1, 0);
        x.road(1, 2, 0);
        x.road(2, 3, 0);
        x.road(3, 0, 1);
        return x;
    }

    /** Two roads side by side, twenty long and four apart, that no way joins. */
    static RoadTrace sideBySide() {
        RoadTrace x = new RoadTrace();
        x.crossing(0, 0);
        x.crossing(20, 0);
        x.crossing(0, 4);
        x.crossing(20, 4);
        x.road(0, 1, 0);
        x.road(2, 3, 0);
        return x;
    }

    /** One road of both ways, ten long, from (10, 20) to (20, 20). */
    static RoadTrace oneRoad() {
        RoadTrace x = new RoadTrace();
        x.crossing(10, 20);
        x.crossing(20, 20);
        x.road(0, 1, 0);
        return x;
    }

    /** Twelve crossings, four by three and five apart, and twenty roads: three more than there are neighbours. */
    static RoadTrace fullGrid() {
        RoadTrace x = new RoadTrace();
        for (int i = 0; i < 12; i++) {
            x.crossing(i % 4 * 5, i / 4 * 5);
        }
        for (int i = 0; i < 12; i++) {
            if (i % 4 < 3) {
                x.road(i, i + 1, 0);
            }
            if (i < 8) {
                x.road(i, i + 4, 0);
            }
        }
        x.road(0, 2, 0);
        x.road(1, 3, 1);
        x.road(0, 8, 1);
        return x;
    }

    /** Twelve crossings in one row, one apart, and twenty roads, all of which are in the first ten. */
    static RoadTrace fullRow() {
        RoadTrace x = new RoadTrace();
        for (int i = 0; i < 12; i++) {
            x.crossing(i, 7);
        }
        for (int i = 1; i < 12; i++) {
            x.road(0, i, 0);
        }
        for (int i = 2; i < 11; i++) {
            x.road(1, i, 0);
        }
        return x;
    }

    /** Twelve crossings, one road from each to the next, round and round from the edges in: 673 long in all. */
    static RoadTrace spiral() {
        RoadTrace x = new RoadTrace();
        int[][] places = {{0, 0}, {63, 0}, {63, 63}, {0, 63}, {0, 1}, {62, 1}, {62, 62}, {1, 62}, {1, 2}, {61, 2},
            {61, 61}, {2, 61}};
        for (int[] place : places) {
            x.crossing(place[0], place[1]);
        }
        for (int i = 0; i < 11; i++) {
            x.road(i, i + 1, 0);
        }
        return x;
    }

    /** Twelve crossings round a square, three apart; all roads go but one way, round. */
    static RoadTrace twelveRound() {
        RoadTrace x = new RoadTrace();
        for (int i = 0; i < 12; i++) {
            int along = i % 3 * 3;
            int[][] sides = {{along, 0}, {9, along}, {9 - along, 9}, {0, 9 - along}};
            x.crossing(sides[i / 3][0], sides[i / 3][1]);
        }
        for (int i = 0; i < 12; i++) {
            x.road(i, (i + 1) % 12, 1);
        }
        return x;
    }

    /** A square that wide, from (0, 0) on; all its four roads go but one way, round. */
    static RoadTrace oneWayRound(int wide) {
        RoadTrace x = new RoadTrace();
        x.crossing(0, 0);
        x.crossing(wide, 0);
        x.crossing(wide, wide);
        x.crossing(0, wide);
        for (int i = 0; i < 4; i++) {
            x.road(i, (i + 1) % 4, 1);
        }
        return x;
    }

    static void manyFixes(RoadTrace x, int count, int atX, int atY) {
        for (int i = 0; i < count; i++) {
            x.fix(atX, atY);
        }
    }

    static int dropAll(RoadTrace x) {
        int left = x.told(2);
        for (int i = 0; i < 16 && left > 0; i++) {
            left = x.drop();
        }
        return left;
    }
}
