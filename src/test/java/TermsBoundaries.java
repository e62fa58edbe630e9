import java.util.function.IntSupplier;

/** How calls are refused: in which order, and that nothing changes by them. */
final class TermsBoundaries {
    private static final int UNKNOWN = -1;
    private static final int OUTSIDE = -2;
    private static final int STATE = -3;
    private static final int FULL = -4;
    private static final int NO = -5;

    private TermsBoundaries() {
    }

    @Sentence(of = 0, says = "Calls that are refused answer, the first of these that fits: UNKNOWN -1 (there is no "
        + "such "
        + "CROSSING, ROAD, FIX), OUTSIDE -2 (another number is not as told), NO -5 (as told), STATE -3 (as told), "
        + "FULL -4.")
    static void theNumbersOfRefusals() {
        RoadTrace x = Nets.fullGrid();
        Check.due("UNKNOWN crossing", x.between(12, 0), -1);
        Check.due("UNKNOWN road", x.way(2000, 0), -1);
        Check.due("UNKNOWN fix", x.best(0), -1);
        Check.due("OUTSIDE", x.crossing(64, 0), -2);
        Check.due("NO", x.drop(), -5);
        Check.due("STATE", x.restore(0), -3);
        Check.due("FULL", x.crossing(50, 50), -4);
        Check.due("the constant UNKNOWN", RoadTrace.UNKNOWN, -1);
        Check.due("the constant OUTSIDE", RoadTrace.OUTSIDE, -2);
        Check.due("the constant STATE", RoadTrace.STATE, -3);
        Check.due("the constant FULL", RoadTrace.FULL, -4);
        Check.due("the constant NO", RoadTrace.NO, -5);
    }

    @Sentence(of = 0, says = "the first of these that fits")
    static void theFirstThatFitsWithoutFixes() {
        RoadTrace x = Nets.fullGrid();
        Check.due("UNKNOWN, though OUTSIDE and FULL fit", x.road(12, 0, 2), UNKNOWN);
        Check.due("OUTSIDE, though NO and FULL fit", x.road(0, 0, 2), OUTSIDE);
        Check.due("NO, though FULL fits", x.road(0, 0, 0), NO);
        Check.due("FULL, as nothing else fits", x.road(0, 3, 0), FULL);
        Check.due("OUTSIDE, though FULL fits", x.crossing(64, 0), OUTSIDE);
        Check.due("NO, though FULL fits", x.crossing(0, 0), NO);
        Check.due("FULL, as nothing else fits", x.crossing(1, 0), FULL);
        Check.due("OUTSIDE, as there is no such image to be kept or not", x.restore(2), OUTSIDE);
        Check.due("UNKNOWN, though OUTSIDE fits", x.candidate(0, 0, 4), UNKNOWN);
    }

    @Sentence(of = 0, says = "the first of these that fits")
    static void theFirstThatFitsWithFixes() {
        RoadTrace x = Nets.fullGrid();
        Nets.manyFixes(x, 16, 1, 1);
        Check.due("UNKNOWN, though all else fits", x.road(0, -1, -1), UNKNOWN);
        Check.due("OUTSIDE, though STATE, NO and FULL fit", x.road(0, 1, 2), OUTSIDE);
        Check.due("OUTSIDE, though STATE and FULL fit", x.crossing(1, -1), OUTSIDE);
        Check.due("OUTSIDE, though STATE fits", x.rule(3, 100), OUTSIDE);
        Check.due("OUTSIDE, though FULL fits", x.fix(1, 64), OUTSIDE);
        Check.due("FULL, as nothing else fits", x.fix(1, 1), FULL);
        Check.due("UNKNOWN, though OUTSIDE fits", x.candidate(16, 0, 4), UNKNOWN);
        Check.due("OUTSIDE, where the fix is known", x.candidate(15, 0, 4), OUTSIDE);
    }

    private static void refused(RoadTrace x, String call, IntSupplier made, int want) {
        String before = Seen.all(x);
        Check.due(call, made.getAsInt(), want);
        Check.isTrue(call + " changes nothing", before.equals(Seen.all(x)));
    }

    @Sentence(of = 0, says = "They change nothing.")
    static void refusedCallsChangeNothingInANewObject() {
        RoadTrace x = new RoadTrace();
        refused(x, "crossing(-1, 0)", () -> x.crossing(-1, 0), OUTSIDE);
        refused(x, "crossing(0, 64)", () -> x.crossing(0, 64), OUTSIDE);
        refused(x, "road(0, 1, 0)", () -> x.road(0, 1, 0), UNKNOWN);
        refused(x, "rule(4, 0)", () -> x.rule(4, 0), OUTSIDE);
        refused(x, "rule(0, 9)", () -> x.rule(0, 9), OUTSIDE);
        refused(x, "fix(64, 0)", () -> x.fix(64, 0), OUTSIDE);
        refused(x, "drop()", () -> x.drop(), NO);
        refused(x, "restore(0)", () -> x.restore(0), STATE);
        refused(x, "restore(2)", () -> x.restore(2), OUTSIDE);
        refused(x, "image(2)", () -> x.image(2), OUTSIDE);
        Check.due("the refused image was not kept", x.restore(1), STATE);
    }

    @Sentence(of = 0, says = "They change nothing.")
    static void refusedCallsChangeNothingInAFullNet() {
        RoadTrace x = Nets.fullGrid();
        refused(x, "crossing(5, 0)", () -> x.crossing(5, 0), NO);
        refused(x, "crossing(6, 0)", () -> x.crossing(6, 0), FULL);
        refused(x, "road(0, 12, 0)", () -> x.road(0, 12, 0), UNKNOWN);
        refused(x, "road(0, 1, -1)", () -> x.road(0, 1, -1), OUTSIDE);
        refused(x, "road(0, 5, 0)", () -> x.road(0, 5, 0), NO);
        refused(x, "road(3, 1, 0)", () -> x.road(3, 1, 0), NO);
        refused(x, "road(0, 3, 0)", () -> x.road(0, 3, 0), FULL);
        refused(x, "rule(3, -1)", () -> x.rule(3, -1), OUTSIDE);
        refused(x, "cell(8, 8)", () -> x.cell(8, 8), OUTSIDE);
        refused(x, "between(0, 12)", () -> x.between(0, 12), UNKNOWN);
        refused(x, "way(0, 6)", () -> x.way(0, 6), UNKNOWN);
        refused(x, "best(0)", () -> x.best(0), UNKNOWN);
        refused(x, "total(5)", () -> x.total(5), OUTSIDE);
        refused(x, "told(7)", () -> x.told(7), OUTSIDE);
    }

    @Sentence(of = 0, says = "They change nothing.")
    static void refusedCallsChangeNothingWithAllFixes() {
        RoadTrace x = Nets.fullGrid();
        for (int i = 0; i < 16; i++) {
            x.fix(i, i % 3 * 5 + 1);
        }
        refused(x, "fix(3, 3)", () -> x.fix(3, 3), FULL);
        refused(x, "fix(3, 64)", () -> x.fix(3, 64), OUTSIDE);
        refused(x, "crossing(40, 40)", () -> x.crossing(40, 40), STATE);
        refused(x, "road(0, 3, 1)", () -> x.road(0, 3, 1), STATE);
        refused(x, "rule(0, 8)", () -> x.rule(0, 8), STATE);
        refused(x, "candidate(16, 0, 0)", () -> x.candidate(16, 0, 0), UNKNOWN);
        refused(x, "candidate(0, 0, 4)", () -> x.candidate(0, 0, 4), OUTSIDE);
        refused(x, "decided(16)", () -> x.decided(16), UNKNOWN);
        refused(x, "piece(16)", () -> x.piece(16), UNKNOWN);
        refused(x, "step(16)", () -> x.step(16), UNKNOWN);
        refused(x, "through(16, 0)", () -> x.through(16, 0), UNKNOWN);
        refused(x, "restore(1)", () -> x.restore(1), STATE);
    }

    /** A call is refused also where there was room before: with fixes in a net that is not full. */
    @Sentence(of = 0, says = "They change nothing.")
    static void refusedCallsLeaveANetThatHasRoom() {
        RoadTrace x = Nets.square();
        x.fix(2, 1);
        refused(x, "crossing(40, 40)", () -> x.crossing(40, 40), STATE);
        refused(x, "rule(0, 0)", () -> x.rule(0, 0), STATE);
        x.drop();
        refused(x, "road(0, 2, 0)", () -> x.road(0, 2, 0), NO);
        refused(x, "road(2, 2, 0)", () -> x.road(2, 2, 0), NO);
        refused(x, "drop()", () -> x.drop(), NO);
        Check.due("the next crossing has the next number", x.crossing(20, 0), 5);
        Check.due("the next road has the next number", x.road(1, 4, 0), 5);
        Check.due("the rule is as it was", x.rule(0, 4), 4);
    }

    @Sentence(of = 0, says = "They change nothing.")
    static void refusedCallsLeaveTheImages() {
        RoadTrace x = Nets.square();
        x.image(0);
        x.fix(2, 1);
        x.image(1);
        x.fix(7, 2);
        String before = Seen.all(x);
        for (int n : new int[] {-1, 2, Integer.MIN_VALUE, Integer.MAX_VALUE}) {
            Check.due("image(" + n + ")", x.image(n), OUTSIDE);
            Check.due("restore(" + n + ")", x.restore(n), OUTSIDE);
        }
        Check.isTrue("refused images change nothing", before.equals(Seen.all(x)));
        x.restore(1);
        Check.due("image 1 as it was kept", x.told(2), 1);
        x.restore(0);
        Check.due("image 0 as it was kept", x.told(2), 0);
    }
}
