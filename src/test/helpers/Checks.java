/** What the tests that are written by hand share: answers that are due, and yards to begin with. */
abstract class Checks {
    static final int LOW = Integer.MIN_VALUE;
    static final int HIGH = Integer.MAX_VALUE;
    static final int NO_PLACES = -1000000000;
    /** Numbers that are no job's in a yard of three. */
    static final int[] NO_JOBS_OF_3 = {-1, 3, 11, 12, 32, LOW, HIGH};

    private static int tests = 0;
    private static int wrong = 0;
    private static String sentence = "";

    /** A test of its own for what one sentence of the document says. */
    static void test(String words, Runnable body) {
        tests++;
        sentence = words;
        try {
            body.run();
        } catch (RuntimeException | Error e) {
            wrong++;
            System.out.println(sentence + ": threw " + e);
        }
    }

    static void due(String call, int got, int want) {
        if (got != want) {
            wrong++;
            System.out.println(sentence + ": " + call + " answered " + got + ", due is " + want);
        }
    }

    static void done(FellersOrder x, String call, int got, int want) {
        due(call, got, want);
        due("status() behind " + call, x.status(), 0);
    }

    static void refused(FellersOrder x, String call, int got, int status) {
        due(call, got, -1);
        due("status() behind " + call, x.status(), status);
    }

    static void finish() {
        System.out.println(tests + " tests, " + wrong + " answers not as due");
        if (wrong != 0 || tests == 0) {
            System.exit(1);
        }
    }

    static FellersOrder yard(int... lengthsAndWeights) {
        FellersOrder x = new FellersOrder();
        for (int i = 0; i < lengthsAndWeights.length; i += 2) {
            x.job(lengthsAndWeights[i], lengthsAndWeights[i + 1]);
        }
        return x;
    }

    /** Jobs all alike, none laid ahead of another. */
    static FellersOrder alike(int jobs) {
        FellersOrder x = new FellersOrder();
        for (int i = 0; i < jobs; i++) {
            x.job(2, 2);
        }
        return x;
    }

    static FellersOrder fullYard() {
        return alike(12);
    }

    /** Each job laid ahead of the next one. */
    static FellersOrder chain(int jobs) {
        FellersOrder x = alike(jobs);
        for (int job = 1; job < jobs; job++) {
            x.lay(job - 1, job);
        }
        return x;
    }

    /** a ahead of c, b ahead of c and d: the least yard that is not series. */
    static FellersOrder crossing() {
        FellersOrder x = yard(1, 1, 2, 2, 3, 3, 4, 4);
        x.lay(0, 2);
        x.lay(1, 2);
        x.lay(1, 3);
        return x;
    }

    /** Twelve jobs, and all that could be undone has been undone. */
    static FellersOrder spent() {
        FellersOrder x = fullYard();
        for (int i = 0; i < 12; i++) {
            x.set(i, 1, 50);
        }
        for (int i = 0; i < 12; i++) {
            x.undo();
        }
        return x;
    }

    static void putAll(FellersOrder x, int... jobs) {
        x.clear();
        for (int job : jobs) {
            x.put(job);
        }
    }

    static void writeCells(FellersOrder x, int sheet, int... numbers) {
        for (int i = 0; i < numbers.length; i++) {
            x.cell(sheet, i, numbers[i]);
        }
    }

    static void traceIs(FellersOrder x, int... bodies) {
        due("count(5)", x.count(5), bodies.length);
        for (int i = 0; i < bodies.length; i++) {
            due("trace(" + i + ")", x.trace(i), bodies[i]);
        }
        due("trace(-1)", x.trace(-1), -1);
        due("trace behind the last", x.trace(bodies.length), -1);
    }
}
