/** Many runs of 512 calls, the same ones each time, on the class and on the model beside it. */
final class ModelTest {
    private static final int RUNS = 300;
    // With the 32 reads at its end a run makes the 512 calls that the document allows.
    private static final int CALLS = 480;
    private static long seed = 1;
    private static int refusedFull = 0;

    private ModelTest() {
    }

    public static void main(String[] args) {
        for (int run = 0; run < RUNS && Check.allWell(); run++) {
            // Few contents in some runs, so that blocks share; many in others, so that room runs out.
            oneRun(run, new int[] {3, 8, 14, 60}[run % 4]);
        }
        Check.that("the runs meet FULL", refusedFull > 1000);
        everyContent();
        Check.end();
    }

    private static int below(int bound) {
        seed = seed * 6364136223846793005L + 1442695040888963407L;
        return (int) ((seed >>> 33) % bound);
    }

    /** Mostly 0 to bound - 1, now and then something just or far outside. */
    private static int maybeBad(int bound) {
        if (below(40) != 0) {
            return below(bound);
        }
        return new int[] {-1, bound, Integer.MIN_VALUE, Integer.MAX_VALUE}[below(4)];
    }

    private static void oneRun(int run, int kinds) {
        DedupBlocks x = new DedupBlocks();
        Model m = new Model();
        int[] pool = new int[kinds];
        for (int k = 1; k < kinds; k++) {
            pool[k] = below(4096);
        }
        for (int call = 0; call < CALLS && Check.allWell(); call++) {
            int content = below(20) == 0 ? maybeBad(4096) : pool[below(kinds)];
            oneCall("run " + run + " call " + call + " ", x, m, content);
        }
        for (int n = 0; n < 32; n++) {
            Check.due("run " + run + " at its end read(" + n + ")", x.read(n), m.read(n));
        }
    }

    private static void oneCall(String when, DedupBlocks x, Model m, int content) {
        int n = maybeBad(32);
        int other = maybeBad(32);
        int v = maybeBad(4);
        int w = maybeBad(4);
        int i = maybeBad(4);
        int d = maybeBad(8);
        int many = maybeBad(9);
        switch (below(25)) {
            case 0, 1, 2, 3, 4, 5 -> changed(when + "write(" + n + ", " + content + ")", x.write(n, content), m.write(n, content));
            case 6, 7, 8 -> changed(when + "patch(" + n + ", " + i + ", " + d + ")", x.patch(n, i, d), m.patch(n, i, d));
            case 9 -> changed(when + "spread(" + n + ", " + other + ", " + many + ")", x.spread(n, other, many), m.spread(n, other, many));
            case 10 -> rarely(when, x, m, v, w);
            case 11 -> Check.due(when + "read(" + n + ")", x.read(n), m.read(n));
            case 12 -> Check.due(when + "holders(" + content + ")", x.holders(content), m.holders(content));
            case 13 -> Check.due(when + "distinct()", x.distinct(), m.distinct());
            case 14, 15 -> Check.due(when + "used()", x.used(), m.used());
            case 16 -> Check.due(when + "saved()", x.saved(), m.saved());
            case 17, 18 -> Check.due(when + "alone(" + n + ")", x.alone(n), m.alone(n));
            case 19, 20 -> Check.due(when + "aloneIn(" + v + ")", x.aloneIn(v), m.aloneIn(v));
            case 21, 22 -> Check.due(when + "twin(" + n + ")", x.twin(n), m.twin(n));
            case 23 -> Check.due(when + "favourite()", x.favourite(), m.favourite());
            default -> x.tidy();
        }
    }

    // Clones and erasures empty or even out the volumes: too many of them and room never runs out.
    private static void rarely(String when, DedupBlocks x, Model m, int v, int w) {
        switch (below(3)) {
            case 0 -> changed(when + "clone(" + v + ", " + w + ")", x.clone(v, w), m.clone(v, w));
            case 1 -> changed(when + "erase(" + v + ")", x.erase(v), m.erase(v));
            default -> x.tidy();
        }
    }

    private static void changed(String call, int got, int want) {
        Check.due(call, got, want);
        if (want == DedupBlocks.FULL) {
            refusedFull++;
        }
    }

    private static void everyContent() {
        for (int content = 0; content < 4096; content++) {
            DedupBlocks x = new DedupBlocks();
            Model m = new Model();
            Check.due("write(4, " + content + ")", x.write(4, content), m.write(4, content));
            Check.due("read(4) of " + content, x.read(4), content);
            Check.due("used() of " + content, x.used(), m.used());
            Check.due("favourite() of " + content, x.favourite(), m.favourite());
        }
    }
}
