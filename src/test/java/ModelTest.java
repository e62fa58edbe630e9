import java.util.Random;

/** Runs of chance calls, the same each time, on RoadTrace and on the plain model: the answers are the same. */
public final class ModelTest {
    private static final int RUNS = 1500;
    private static final int CALLS = 512;

    private final Random chance;
    private final RoadTrace subject = new RoadTrace();
    private final Model model = new Model();
    private final StringBuilder before = new StringBuilder();
    private final int run;
    private int calls = 0;
    private int[] columns;
    private int[] rows;
    private int x;
    private int y;

    private ModelTest(int run) {
        this.run = run;
        this.chance = new Random(77_000L + run);
    }

    public static void main(String[] args) {
        for (int run = 0; run < RUNS && Check.wrong() == 0; run++) {
            new ModelTest(run).go();
        }
        Check.end();
    }

    private void go() {
        makeNet();
        while (calls < CALLS && Check.wrong() == 0) {
            int kind = chance.nextInt(100);
            if (kind < 30) {
                nextFix();
            } else if (kind < 36) {
                ask("drop", 0, 0, 0);
            } else if (kind < 38) {
                ask("image", chance.nextInt(2), 0, 0);
            } else if (kind < 40) {
                ask("restore", chance.nextInt(2), 0, 0);
            } else if (kind < 41) {
                dropAll();
            } else if (kind < 45) {
                anyCall();
            } else {
                question();
            }
        }
    }

    /**
     * Crossings on few rows and columns, so that many lie in one row: evenly apart, where least ways are often equally
     * long, or unevenly, where a crossing may be nearer to the goal and yet on no least way.
     */
    private void makeNet() {
        int wide = 2 + chance.nextInt(4);
        boolean even = chance.nextInt(3) > 0;
        columns = places(wide, even);
        rows = even ? columns : places(wide, false);
        int oneWays = chance.nextInt(101);
        for (int i = 0; i < 14; i++) {
            ask("crossing", columns[chance.nextInt(wide)], rows[chance.nextInt(wide)], 0);
        }
        int tries = 20 + chance.nextInt(60);
        for (int i = 0; i < tries; i++) {
            ask("road", chance.nextInt(12), chance.nextInt(12), chance.nextInt(100) < oneWays ? 1 : 0);
        }
        makeRules();
        goAnywhere();
    }

    private void goAnywhere() {
        x = columns[chance.nextInt(columns.length)];
        y = rows[chance.nextInt(rows.length)];
    }

    private int[] places(int count, boolean even) {
        int[] places = new int[count];
        int apart = 3 + chance.nextInt(8);
        for (int i = 0; i < count; i++) {
            places[i] = even ? apart * i : chance.nextInt(30);
        }
        return places;
    }

    private void makeRules() {
        ask("rule", 0, chance.nextInt(9), 0);
        ask("rule", 1, chance.nextInt(4), 0);
        ask("rule", 2, chance.nextInt(4), 0);
        ask("rule", 3, chance.nextInt(3) == 0 ? chance.nextInt(8) : chance.nextInt(100), 0);
    }

    /** Mostly a little on, at times somewhere else in the net, so that the way is long. */
    private void nextFix() {
        if (chance.nextInt(4) == 0) {
            goAnywhere();
        }
        x = Math.max(0, Math.min(63, x + chance.nextInt(11) - 5));
        y = Math.max(0, Math.min(63, y + chance.nextInt(11) - 5));
        if (chance.nextInt(25) == 0) {
            ask("fix", chance.nextInt(64), chance.nextInt(64), 0);
        } else {
            ask("fix", x, y, 0);
        }
    }

    private void dropAll() {
        for (int i = 0; i < 17 && calls < CALLS; i++) {
            ask("drop", 0, 0, 0);
        }
        makeRules();
    }

    private void question() {
        int fixes = subject.told(2);
        int fix = fixes == 0 ? 0 : chance.nextInt(fixes);
        switch (chance.nextInt(12)) {
            case 0 -> ask("candidate", fix, -1, 0);
            case 1 -> ask("candidate", fix, chance.nextInt(6), 0);
            case 2 -> ask("candidate", fix, chance.nextInt(6), 1 + chance.nextInt(3));
            case 3 -> ask("best", fix, 0, 0);
            case 4 -> ask("decided", fix, 0, 0);
            case 5 -> ask("piece", fix, 0, 0);
            case 6 -> ask("step", fix, 0, 0);
            case 7, 8 -> ask("through", fix, chance.nextInt(5), 0);
            case 9 -> ask("total", chance.nextInt(5), 0, 0);
            case 10 -> ask("way", anySpot(), anySpot(), 0);
            default -> ask("between", chance.nextInt(12), chance.nextInt(12), 0);
        }
    }

    private int anySpot() {
        return 100 * chance.nextInt(20) + chance.nextInt(30);
    }

    private void anyCall() {
        String[] names = {"crossing", "road", "rule", "cell", "between", "way", "fix", "candidate", "best",
            "decided", "piece", "step", "through", "total", "image", "restore", "told"};
        String name = names[chance.nextInt(names.length)];
        ask(name, anyNumber(), anyNumber(), anyNumber());
    }

    private int anyNumber() {
        switch (chance.nextInt(6)) {
            case 0: return chance.nextInt();
            case 1: return chance.nextInt(400);
            case 2: return chance.nextInt(70);
            default: return chance.nextInt(12) - 2;
        }
    }

    private void ask(String name, int a, int b, int c) {
        if (calls >= CALLS) {
            return;
        }
        calls++;
        String call = name + "(" + a + ", " + b + ", " + c + ")";
        int got = answer(name, a, b, c);
        int want = model.call(name, a, b, c);
        before.append(call).append(" ").append(want).append('\n');
        if (got != want) {
            System.out.println(before);
        }
        Check.due("run " + run + ", call " + calls + ": " + call, got, want);
    }

    private int answer(String name, int a, int b, int c) {
        switch (name) {
            case "crossing": return subject.crossing(a, b);
            case "road": return subject.road(a, b, c);
            case "rule": return subject.rule(a, b);
            case "cell": return subject.cell(a, b);
            case "between": return subject.between(a, b);
            case "way": return subject.way(a, b);
            case "fix": return subject.fix(a, b);
            case "drop": return subject.drop();
            case "candidate": return subject.candidate(a, b, c);
            case "best": return subject.best(a);
            case "decided": return subject.decided(a);
            case "piece": return subject.piece(a);
            case "step": return subject.step(a);
            case "through": return subject.through(a, b);
            case "total": return subject.total(a);
            case "image": return subject.image(a);
            case "restore": return subject.restore(a);
            case "told": return subject.told(a);
            default: throw new IllegalArgumentException(name);
        }
    }
}
