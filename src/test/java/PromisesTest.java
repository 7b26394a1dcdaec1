/** Each promise by hand: ordinary inputs, the edges that the document names, and wrong inputs. */
public final class PromisesTest extends Checks {
    public static void main(String[] args) {
        test("promise 1", PromisesTest::promise1NewObject);
        test("promise 2", PromisesTest::promise2Job);
        test("promise 3", PromisesTest::promise3Set);
        test("promise 4", PromisesTest::promise4Lay);
        test("promise 5", PromisesTest::promise5Free);
        test("promise 6", PromisesTest::promise6Put);
        test("promise 7", PromisesTest::promise7Clear);
        test("promise 8", PromisesTest::promise8Told);
        test("promise 9", PromisesTest::promise9Ahead);
        test("promise 10", PromisesTest::promise10Count);
        test("promise 11", PromisesTest::promise11Keeps);
        test("promise 12", PromisesTest::promise12Why);
        test("promise 13", PromisesTest::promise13Cost);
        test("promise 14", PromisesTest::promise14Swap);
        test("promise 15", PromisesTest::promise15Block);
        test("promise 16", PromisesTest::promise16Least);
        test("promise 17", PromisesTest::promise17Best);
        test("promise 18", PromisesTest::promise18Many);
        test("promise 19", PromisesTest::promise19Fixed);
        test("promise 20", PromisesTest::promise20Series);
        test("promise 21", PromisesTest::promise21Shows);
        test("promise 22", PromisesTest::promise22Turned);
        test("promise 23", PromisesTest::promise23Act);
        test("promise 24", PromisesTest::promise24Trace);
        test("promise 25", PromisesTest::promise25Sheet);
        test("promise 26", PromisesTest::promise26Cell);
        test("promise 27", PromisesTest::promise27FromSheet);
        test("promise 28", PromisesTest::promise28Forge);
        test("promise 29", PromisesTest::promise29Undo);
        test("promise 30", PromisesTest::promise30Status);
        finish();
    }

    private static void promise1NewObject() {
        FellersOrder x = new FellersOrder();
        due("NONE", FellersOrder.NONE, -1);
        for (int what = 0; what <= 6; what++) {
            due("count(" + what + ")", x.count(what), what == 4 ? 1 : 0);
        }
        due("status()", x.status(), 0);
        due("keeps()", x.keeps(), 1);
        due("cost()", x.cost(), 0);
        due("least()", x.least(), 0);
        due("series()", x.series(), 1);
        for (int sheet = 0; sheet < 6; sheet++) {
            refused(x, "cell of a missing sheet", x.cell(sheet, 0, 1), 10);
        }
        FellersOrder other = new FellersOrder();
        other.job(1, 1);
        due("count(0) of another object", x.count(0), 0);
    }

    private static void promise2Job() {
        FellersOrder x = new FellersOrder();
        done(x, "job(1, 0)", x.job(1, 0), 0);
        done(x, "job(100, 100)", x.job(100, 100), 1);
        due("told(1, 0)", x.told(1, 0), 100);
        due("told(1, 1)", x.told(1, 1), 100);
        due("told(1, 2)", x.told(1, 2), 0);
        refused(x, "job(0, 1)", x.job(0, 1), 1);
        refused(x, "job(101, 1)", x.job(101, 1), 1);
        refused(x, "job(1, -1)", x.job(1, -1), 1);
        refused(x, "job(1, 101)", x.job(1, 101), 1);
        refused(x, "job(LOW, HIGH)", x.job(LOW, HIGH), 1);
        due("count(0)", x.count(0), 2);
        for (int job = 2; job < 12; job++) {
            done(x, "job(3, 4)", x.job(3, 4), job);
        }
        refused(x, "a 13th job", x.job(3, 4), 2);
        refused(x, "a 13th job of no length", x.job(0, 4), 1);
        due("count(0)", x.count(0), 12);
    }

    private static void promise3Set() {
        FellersOrder x = yard(3, 4, 5, 6);
        done(x, "set(0, 0, 100)", x.set(0, 0, 100), 3);
        done(x, "set(0, 0, 1)", x.set(0, 0, 1), 100);
        done(x, "set(0, 1, 0)", x.set(0, 1, 0), 4);
        done(x, "set(0, 1, 100)", x.set(0, 1, 100), 0);
        done(x, "set(0, 2, 500)", x.set(0, 2, 500), 0);
        done(x, "set(0, 2, 0)", x.set(0, 2, 0), 500);
        done(x, "set(1, 1, 6)", x.set(1, 1, 6), 6);
        due("count(6)", x.count(6), 9);
        int[][] bad = {
            {0, 0, 0}, {0, 0, 101}, {0, 1, -1}, {0, 1, 101}, {0, 2, -1}, {0, 2, 501},
            {2, 0, 5}, {-1, 0, 5}, {0, 3, 5}, {0, -1, 5}, {HIGH, LOW, 5}, {0, 0, LOW}, {0, 2, HIGH},
        };
        for (int[] b : bad) {
            refused(x, "set(" + b[0] + ", " + b[1] + ", " + b[2] + ")", x.set(b[0], b[1], b[2]), 1);
        }
        due("count(6)", x.count(6), 9);
        due("told(0, 0)", x.told(0, 0), 1);
        due("told(1, 0)", x.told(1, 0), 5);
    }

    private static void promise4Lay() {
        FellersOrder x = yard(1, 1, 1, 1, 1, 1);
        done(x, "lay(0, 1)", x.lay(0, 1), 1);
        done(x, "lay(1, 2)", x.lay(1, 2), 1);
        refused(x, "lay(0, 0)", x.lay(0, 0), 3);
        refused(x, "lay(0, 1) again", x.lay(0, 1), 3);
        refused(x, "lay(1, 0)", x.lay(1, 0), 3);
        refused(x, "lay(2, 0)", x.lay(2, 0), 3);
        done(x, "lay(0, 2), so already but not laid", x.lay(0, 2), 1);
        due("count(1)", x.count(1), 3);
        refused(x, "lay(0, 3)", x.lay(0, 3), 1);
        refused(x, "lay(-1, 0)", x.lay(-1, 0), 1);
        refused(x, "lay(5, 5)", x.lay(5, 5), 1);
        refused(x, "lay(LOW, HIGH)", x.lay(LOW, HIGH), 1);
        due("count(1)", x.count(1), 3);
    }

    private static void promise5Free() {
        FellersOrder x = yard(1, 1, 1, 1, 1, 1);
        x.lay(0, 1);
        x.lay(1, 2);
        refused(x, "free(1, 0)", x.free(1, 0), 3);
        refused(x, "free(0, 2), so but not laid", x.free(0, 2), 3);
        refused(x, "free(0, 0)", x.free(0, 0), 3);
        refused(x, "free(0, 3)", x.free(0, 3), 1);
        refused(x, "free(-1, 0)", x.free(-1, 0), 1);
        refused(x, "free(HIGH, LOW)", x.free(HIGH, LOW), 1);
        x.put(0);
        done(x, "free(0, 1)", x.free(0, 1), 1);
        due("count(2)", x.count(2), 1);
        due("count(1)", x.count(1), 1);
        due("ahead(0, 2)", x.ahead(0, 2), 0);
        due("ahead(1, 2)", x.ahead(1, 2), 2);
        refused(x, "free(0, 1) again", x.free(0, 1), 3);
        done(x, "lay(2, 0)", x.lay(2, 0), 1);
    }

    private static void promise6Put() {
        FellersOrder x = yard(1, 1, 1, 1);
        refused(x, "put(2)", x.put(2), 1);
        refused(x, "put(-1)", x.put(-1), 1);
        refused(x, "put(HIGH)", x.put(HIGH), 1);
        done(x, "put(1)", x.put(1), 1);
        refused(x, "put(1) again", x.put(1), 3);
        done(x, "put(0)", x.put(0), 2);
        due("told(1, 6)", x.told(1, 6), 0);
        due("told(0, 6)", x.told(0, 6), 1);
        due("count(6)", x.count(6), 2);
        x.job(1, 1);
        due("count(2) behind job", x.count(2), 2);
        FellersOrder full = fullYard();
        for (int job = 11; job >= 0; job--) {
            done(full, "put(" + job + ")", full.put(job), 12 - job);
        }
        refused(full, "put(0) into a full order", full.put(0), 3);
    }

    private static void promise7Clear() {
        FellersOrder x = yard(1, 1, 1, 1);
        done(x, "clear()", x.clear(), 0);
        x.put(1);
        x.put(0);
        x.put(9);
        done(x, "clear()", x.clear(), 2);
        due("count(2)", x.count(2), 0);
        due("told(1, 6)", x.told(1, 6), -1);
        done(x, "put(1)", x.put(1), 1);
    }

    private static void promise8Told() {
        FellersOrder x = yard(3, 4, 1, 9, 7, 0, 1, 0);
        x.lay(0, 1);
        x.lay(1, 2);
        int[][] want = {
            {3, 4, 0, 0, 0, 2, -1, 0}, {1, 9, 0, 1, 1, 1, 1, 0},
            {7, 0, 0, 2, 2, 0, 0, 1}, {1, 0, 0, 3, 0, 0, -1, 1},
        };
        x.put(2);
        x.put(1);
        for (int job = 0; job < 4; job++) {
            for (int what = 0; what < 8; what++) {
                due("told(" + job + ", " + what + ")", x.told(job, what), want[job][what]);
            }
        }
        due("told(0, 8)", x.told(0, 8), -1);
        due("told(0, -1)", x.told(0, -1), -1);
        due("told(4, 0)", x.told(4, 0), -1);
        due("told(-1, 0)", x.told(-1, 0), -1);
        due("told(LOW, HIGH)", x.told(LOW, HIGH), -1);
        x.set(3, 2, 500);
        due("a LATE job's kind", x.told(3, 3), 4);
        due("its moment", x.told(3, 2), 500);
        x.set(3, 2, 0);
        x.lay(0, 3);
        due("a FIRST that became a UNIT", x.told(3, 3), 1);
        x.set(3, 0, 2);
        due("a UNIT that became IDLE", x.told(3, 3), 2);
        x.set(3, 1, 1);
        due("an IDLE that became a JOB", x.told(3, 3), 0);
    }

    private static void promise9Ahead() {
        FellersOrder x = yard(1, 1, 1, 1, 1, 1, 1, 1);
        x.lay(2, 1);
        x.lay(1, 0);
        due("ahead(2, 1)", x.ahead(2, 1), 2);
        due("ahead(2, 0)", x.ahead(2, 0), 1);
        due("ahead(0, 2)", x.ahead(0, 2), 0);
        due("ahead(1, 1)", x.ahead(1, 1), 0);
        due("ahead(3, 0)", x.ahead(3, 0), 0);
        x.lay(2, 0);
        due("ahead(2, 0) laid", x.ahead(2, 0), 2);
        x.free(2, 1);
        due("ahead(2, 1) freed", x.ahead(2, 1), 0);
        due("ahead(4, 0)", x.ahead(4, 0), -1);
        due("ahead(0, 4)", x.ahead(0, 4), -1);
        due("ahead(-1, 0)", x.ahead(-1, 0), -1);
        due("ahead(HIGH, LOW)", x.ahead(HIGH, LOW), -1);
        FellersOrder chain = fullYard();
        for (int job = 11; job > 0; job--) {
            chain.lay(job, job - 1);
        }
        due("ahead(11, 0) of a chain", chain.ahead(11, 0), 1);
        due("told(0, 4) of a chain", chain.told(0, 4), 11);
        due("told(11, 5) of a chain", chain.told(11, 5), 11);
    }

    private static void promise10Count() {
        FellersOrder x = crossing();
        x.put(1);
        x.act(2, 3, 1);
        int[] want = {4, 3, 1, 1, 8, 4, 7};
        for (int what = 0; what <= 6; what++) {
            due("count(" + what + ")", x.count(what), want[what]);
        }
        due("count(7)", x.count(7), -1);
        due("count(-1)", x.count(-1), -1);
        due("count(LOW)", x.count(LOW), -1);
        due("status() behind questions", x.status(), 0);
        FellersOrder full = fullYard();
        due("count(4), nothing laid", full.count(4), 4096);
        due("count(6), as many as can be", full.count(6), 12);
        for (int job = 1; job < 12; job++) {
            full.lay(job - 1, job);
        }
        due("count(4) of a chain", full.count(4), 13);
        due("count(6) of more than can be", full.count(6), 12);
        due("count(3)", full.count(3), 1);
    }

    private static void promise11Keeps() {
        FellersOrder x = crossing();
        due("keeps() of an empty order", x.keeps(), 0);
        putAll(x, 1, 0, 3);
        due("keeps() of three of four", x.keeps(), 0);
        x.put(2);
        due("keeps() of all", x.keeps(), 1);
        putAll(x, 0, 2, 1, 3);
        due("keeps() out of order", x.keeps(), 0);
        putAll(x, 0, 1, 3, 2);
        due("keeps() of another order", x.keeps(), 1);
        x.job(1, 1);
        due("keeps() behind one more job", x.keeps(), 0);
        FellersOrder chain = yard(1, 1, 1, 1, 1, 1);
        chain.lay(2, 1);
        chain.lay(1, 0);
        putAll(chain, 2, 1, 0);
        due("keeps() of a chain", chain.keeps(), 1);
    }

    private static void promise12Why() {
        FellersOrder x = crossing();
        due("why(0), empty", x.why(0), -2);
        due("why(1), empty", x.why(1), 0);
        putAll(x, 0, 2, 1, 3);
        due("why(0), 2 lacks 1", x.why(0), 2);
        due("why(1), 2 lacks 1", x.why(1), 1);
        putAll(x, 3, 2);
        due("why(0), 3 lacks 1", x.why(0), 3);
        due("why(1), 3 lacks 1", x.why(1), 1);
        putAll(x, 2);
        due("why(0), 2 lacks two", x.why(0), 2);
        due("why(1), 2 lacks two", x.why(1), 0);
        putAll(x, 1, 0, 3);
        due("why(0), nothing lacks", x.why(0), -2);
        due("why(1), 2 is not in it", x.why(1), 2);
        due("why(2)", x.why(2), -1);
        due("why(-1)", x.why(-1), -1);
        due("why(LOW)", x.why(LOW), -1);
        x.put(2);
        due("why(0), it keeps", x.why(0), -1);
        due("why(1), it keeps", x.why(1), -1);
        FellersOrder chain = yard(1, 1, 1, 1, 1, 1);
        chain.lay(0, 1);
        chain.lay(1, 2);
        putAll(chain, 1, 2, 0);
        due("why(0) of a chain", chain.why(0), 1);
        putAll(chain, 2);
        due("why(1), not laid but so", chain.why(1), 0);
    }

    private static void promise13Cost() {
        FellersOrder x = yard(3, 2, 4, 5, 1, 0);
        due("cost() of none", x.cost(), 0);
        putAll(x, 1, 0);
        due("cost()", x.cost(), 5 * 4 + 2 * 7);
        x.set(0, 2, 10);
        due("cost() with a moment", x.cost(), 5 * 4 + 2 * 13);
        x.set(0, 2, 4);
        due("cost() with a moment that has come", x.cost(), 5 * 4 + 2 * 7);
        x.set(1, 2, 500);
        due("cost() with the first one late", x.cost(), 5 * 504 + 2 * 507);
        x.put(2);
        due("cost() with one of no weight", x.cost(), 5 * 504 + 2 * 507);
    }

    private static void promise14Swap() {
        FellersOrder x = yard(3, 2, 4, 5, 1, 7);
        due("swap(0) of none", x.swap(0), NO_PLACES);
        putAll(x, 0, 1, 2);
        due("swap(0)", x.swap(0), 4 * 2 - 3 * 5);
        due("swap(1)", x.swap(1), 1 * 5 - 4 * 7);
        due("swap(2)", x.swap(2), NO_PLACES);
        due("swap(-1)", x.swap(-1), NO_PLACES);
        due("swap(HIGH)", x.swap(HIGH), NO_PLACES);
        due("swap(LOW)", x.swap(LOW), NO_PLACES);
        due("told(0, 6)", x.told(0, 6), 0);
        x.set(1, 2, 20);
        int now = 2 * 3 + 5 * 24 + 7 * 25;
        due("cost()", x.cost(), now);
        due("swap(0) with a moment", x.swap(0), 5 * 24 + 2 * 27 + 7 * 28 - now);
        due("swap(1) with a moment", x.swap(1), 2 * 3 + 7 * 4 + 5 * 24 - now);
        x.put(9);
        x.swap(0);
        due("status() is not told", x.status(), 1);
    }

    private static void promise15Block() {
        FellersOrder x = yard(3, 6, 1, 5, 4, 0, 2, 9, 1, 1);
        due("block(0, 0) of jobs apart", x.block(0, 0), 1 << 1);
        due("block(1, 0) of jobs apart", x.block(1, 0), 1 << 3);
        due("block(4, 0) of jobs apart", x.block(4, 0), 1 << 2);
        x.lay(2, 3);
        x.lay(2, 1);
        x.lay(0, 4);
        int[][] want = {{15, 20, 10}, {16, 1, 1}};
        for (int i = 0; i < 2; i++) {
            for (int what = 0; what < 3; what++) {
                due("block(" + i + ", " + what + ")", x.block(i, what), want[i][what]);
            }
        }
        due("block(2, 0)", x.block(2, 0), -1);
        due("block(-1, 0)", x.block(-1, 0), -1);
        due("block(0, 3)", x.block(0, 3), -1);
        due("block(0, -1)", x.block(0, -1), -1);
        due("block(HIGH, LOW)", x.block(HIGH, LOW), -1);
        due("block(0, 0) of none", new FellersOrder().block(0, 0), -1);
        due("block(0, 0) of all alike", fullYard().block(0, 0), 4095);
        FellersOrder idle = yard(5, 0, 2, 0);
        due("block(0, 0) of no weight", idle.block(0, 0), 3);
        due("block(0, 1) of no weight", idle.block(0, 1), 0);
        FellersOrder twelve = new FellersOrder();
        for (int job = 0; job < 12; job++) {
            twelve.job(1, job);
        }
        due("count(3) of twelve ratios", twelve.count(3), 12);
        due("block(11, 0) of twelve ratios", twelve.block(11, 0), 1);
        due("told(0, 7) of twelve ratios", twelve.told(0, 7), 11);
    }

    private static void promise16Least() {
        FellersOrder x = yard(3, 1, 1, 3);
        due("least()", x.least(), 3 * 1 + 1 * 4);
        x.set(1, 2, 100);
        due("least() with a moment", x.least(), 3 * 1 + 1 * 4);
        x.lay(0, 1);
        due("least() with one laid", x.least(), 1 * 3 + 3 * 4);
        FellersOrder full = new FellersOrder();
        for (int job = 0; job < 12; job++) {
            full.job(100, 100);
        }
        due("least() of the greatest yard", full.least(), 100 * 100 * 78);
        due("least() of one", yard(7, 8).least(), 56);
    }

    private static void promise17Best() {
        FellersOrder x = yard(3, 6, 1, 5, 4, 0, 2, 9, 1, 1);
        x.lay(2, 3);
        x.lay(2, 1);
        x.lay(0, 4);
        int[] want = {0, 2, 1, 3, 4};
        for (int i = 0; i < 5; i++) {
            due("best(" + i + ")", x.best(i), want[i]);
        }
        due("best(5)", x.best(5), -1);
        due("best(-1)", x.best(-1), -1);
        due("best(HIGH)", x.best(HIGH), -1);
        due("best(0) of none", new FellersOrder().best(0), -1);
        FellersOrder full = fullYard();
        full.lay(11, 0);
        int[] behind = {1, 2, 3, 4, 5, 6, 7, 8, 9, 10, 11, 0};
        for (int i = 0; i < 12; i++) {
            due("best(" + i + ") of all alike", full.best(i), behind[i]);
        }
        full.fixed(0, 1);
        due("best(0) behind fixed", full.best(0), 1);
    }

    private static void promise18Many() {
        due("many() of none", new FellersOrder().many(), 1);
        due("many() of all alike", fullYard().many(), 479001600);
        FellersOrder x = crossing();
        due("many() of a crossing", x.many(), 5);
        due("many() of two that differ", yard(1, 2, 2, 1).many(), 1);
        FellersOrder chain = yard(1, 1, 1, 1, 1, 1);
        chain.lay(0, 1);
        due("many() of one laid", chain.many(), 3);
        chain.lay(1, 2);
        due("many() of a chain", chain.many(), 1);
        chain.fixed(0, 1);
        due("many() behind fixed", chain.many(), 1);
    }

    private static void promise19Fixed() {
        FellersOrder x = yard(1, 2, 1, 1, 2, 2, 3, 0);
        due("fixed(0, 1), by ratio", x.fixed(0, 1), 1);
        due("fixed(1, 0), by ratio", x.fixed(1, 0), 0);
        due("fixed(1, 2), alike", x.fixed(1, 2), 0);
        due("fixed(2, 1), alike", x.fixed(2, 1), 0);
        due("fixed(2, 3)", x.fixed(2, 3), 1);
        x.lay(2, 1);
        due("fixed(2, 1), laid", x.fixed(2, 1), 1);
        due("fixed(1, 2), laid", x.fixed(1, 2), 0);
        due("fixed(1, 1)", x.fixed(1, 1), -1);
        due("fixed(0, 4)", x.fixed(0, 4), -1);
        due("fixed(4, 0)", x.fixed(4, 0), -1);
        due("fixed(-1, 0)", x.fixed(-1, 0), -1);
        due("fixed(LOW, HIGH)", x.fixed(LOW, HIGH), -1);
        due("least() behind fixed", x.least(), 2 * 1 + 2 * 3 + 1 * 4);
        x.undo();
        due("fixed(2, 1) behind undo", x.fixed(2, 1), 0);
    }

    private static void promise20Series() {
        FellersOrder x = crossing();
        due("series() of a crossing", x.series(), 0);
        x.lay(0, 3);
        due("series() of all four pairs", x.series(), 1);
        x.undo();
        x.free(0, 2);
        due("series() of a fork", x.series(), 1);
        due("series() of all alike", fullYard().series(), 1);
        FellersOrder hidden = yard(1, 1, 1, 1, 1, 1, 1, 1, 1, 1);
        hidden.lay(3, 4);
        hidden.lay(4, 1);
        hidden.lay(2, 1);
        hidden.lay(3, 0);
        due("series() of a crossing through another", hidden.series(), 0);
    }

    private static void promise21Shows() {
        FellersOrder x = yard(1, 1, 1, 1, 1, 1, 1, 1, 1, 1);
        due("shows(0) of series", x.shows(0), -1);
        x.lay(3, 4);
        x.lay(4, 1);
        x.lay(2, 1);
        x.lay(3, 0);
        int[] want = {2, 3, 1, 0};
        for (int i = 0; i < 4; i++) {
            due("shows(" + i + ")", x.shows(i), want[i]);
        }
        due("shows(4)", x.shows(4), -1);
        due("shows(-1)", x.shows(-1), -1);
        due("shows(HIGH)", x.shows(HIGH), -1);
    }

    private static void promise22Turned() {
        due("turned() of none", new FellersOrder().turned(), 0);
        FellersOrder x = yard(3, 1, 1, 3);
        x.lay(0, 1);
        due("turned()", x.turned(), 3 * 1 + 1 * 3 + 3 * 3);
        x.set(1, 2, 9);
        due("turned() with a moment", x.turned(), 15);
        x.set(0, 1, 0);
        due("turned() with no weight", x.turned(), -1);
    }

    private static void promise23Act() {
        FellersOrder x = yard(3, 5, 1, 4, 6, 0, 1, 2);
        x.lay(0, 1);
        int[][] want = {
            {10 + 3, 13 * 5, 10, 65 - 10},
            {(10 + 1) * 2, 22 * 4, 11, ((12 * 2) * 4 - 12) ^ 3},
            {10 + 6, 16 * 0 + 6, 10, 6 - 10},
            {(10 + 1) * 2 + 10, 32 * 2, 10 - 7, ((12 * 2 + 11) * 2 - (11 - 7)) ^ 3},
        };
        for (int job = 0; job < 4; job++) {
            for (int act = 0; act < 4; act++) {
                done(x, "act(" + job + ", " + act + ", 10)", x.act(job, act, 10), want[job][act]);
            }
        }
        x.set(1, 2, 7);
        int last = 10 + 7 + 1;
        int[] late = {last, last * 4, 11, 11 * (last * 4 - 11)};
        for (int act = 0; act < 4; act++) {
            done(x, "act(1, " + act + ", 10) of a late one", x.act(1, act, 10), late[act]);
        }
        done(x, "act(0, 0, HIGH)", x.act(0, 0, HIGH), LOW + 2);
        done(x, "act(0, 0, -4)", x.act(0, 0, -4), -1);
        refused(x, "act(4, 0, 1)", x.act(4, 0, 1), 1);
        refused(x, "act(-1, 0, 1)", x.act(-1, 0, 1), 1);
        refused(x, "act(0, 4, 1)", x.act(0, 4, 1), 1);
        refused(x, "act(0, -1, 1)", x.act(0, -1, 1), 1);
        refused(x, "act(HIGH, LOW, 1)", x.act(HIGH, LOW, 1), 1);
    }

    private static void promise24Trace() {
        FellersOrder x = yard(3, 5, 1, 4, 6, 0, 1, 2);
        x.lay(0, 1);
        traceIs(x);
        x.act(0, 3, 1);
        traceIs(x, 13, 11, 10, 12);
        x.act(1, 3, 1);
        traceIs(x, 21, 13, 11, 20, 10, 12);
        x.act(2, 3, 1);
        traceIs(x, 13, 30, 11, 10, 12);
        x.act(3, 3, 1);
        traceIs(x, 21, 13, 11, 41, 20, 10, 12, 40, 12);
        x.set(3, 2, 1);
        x.act(3, 3, 1);
        traceIs(x, 51, 12, 13, 11, 50, 10, 12);
        x.act(9, 0, 0);
        traceIs(x, 51, 12, 13, 11, 50, 10, 12);
        x.undo();
        traceIs(x, 51, 12, 13, 11, 50, 10, 12);
        x.act(0, 2, 1);
        traceIs(x, 12);
        due("trace(-1)", x.trace(-1), -1);
        due("trace(HIGH)", x.trace(HIGH), -1);
        due("trace(LOW)", x.trace(LOW), -1);
    }

    private static void promise25Sheet() {
        FellersOrder x = new FellersOrder();
        done(x, "sheet(0, 0, 0)", x.sheet(0, 0, 0), 1);
        refused(x, "cell(0, 0, 1)", x.cell(0, 0, 1), 12);
        done(x, "sheet(5, 2, 20)", x.sheet(5, 2, 20), 1);
        due("forge(5, 0, 2)", x.forge(5, 0, 2), 20);
        int[][] bad = {
            {-1, 0, 1}, {6, 0, 1}, {0, 3, 1}, {0, -2, 1}, {0, 0, -1}, {0, 0, 21}, {-1, -1, 0},
            {HIGH, 0, 1}, {0, LOW, 1}, {0, 1, HIGH}, {0, 1, LOW},
        };
        for (int[] b : bad) {
            refused(x, "sheet(" + b[0] + ", " + b[1] + ", " + b[2] + ")", x.sheet(b[0], b[1], b[2]), 1);
        }
        due("forge(5, 0, 2)", x.forge(5, 0, 2), 20);
        done(x, "sheet(5, -1, -7)", x.sheet(5, -1, -7), 1);
        refused(x, "cell(5, 0, 1)", x.cell(5, 0, 1), 10);
        done(x, "sheet(5, -1, 99) of a missing one", x.sheet(5, -1, 99), 1);
        x.sheet(1, 1, 4);
        x.cell(1, 1, 8);
        due("forge(1, 2, 1)", x.forge(1, 2, 1), 8);
        x.sheet(1, 1, 4);
        due("forge(1, 2, 1) of a new sheet", x.forge(1, 2, 1), 0);
        due("count(6)", x.count(6), 0);
    }

    private static void promise26Cell() {
        FellersOrder x = new FellersOrder();
        x.sheet(0, 0, 3);
        x.sheet(1, 1, 3);
        x.sheet(2, 2, 3);
        for (int sheet = 0; sheet < 3; sheet++) {
            done(x, "cell(" + sheet + ", 1, 65541)", x.cell(sheet, 1, 65541), 1);
            x.cell(sheet, 0, 65536 + 9);
            x.cell(sheet, 2, 65536 - 1);
        }
        done(x, "fromSheet(0, 0, 0), cut to 9 and 5", x.fromSheet(0, 0, 0), 0);
        due("told(0, 0)", x.told(0, 0), 9);
        due("told(0, 1)", x.told(0, 1), 5);
        refused(x, "fromSheet(0, 0, 1), a weight of -1", x.fromSheet(0, 0, 1), 3);
        refused(x, "fromSheet(1, 1, 0), not cut", x.fromSheet(1, 1, 0), 3);
        refused(x, "fromSheet(2, 2, 0), not cut", x.fromSheet(2, 2, 0), 3);
        due("forge(1, 2, 2)", x.forge(1, 2, 2), 65541 + 65535);
        refused(x, "cell(0, 3, 1)", x.cell(0, 3, 1), 12);
        refused(x, "cell(0, -1, 1)", x.cell(0, -1, 1), 12);
        refused(x, "cell(0, HIGH, 1)", x.cell(0, HIGH, 1), 12);
        refused(x, "cell(3, 0, 1)", x.cell(3, 0, 1), 10);
        refused(x, "cell(3, -1, 1)", x.cell(3, -1, 1), 10);
        refused(x, "cell(6, 0, 1)", x.cell(6, 0, 1), 1);
        refused(x, "cell(-1, 0, 1)", x.cell(-1, 0, 1), 1);
        refused(x, "cell(LOW, LOW, 1)", x.cell(LOW, LOW, 1), 1);
    }

    private static void promise27FromSheet() {
        FellersOrder x = new FellersOrder();
        for (int sort = 0; sort < 3; sort++) {
            x.sheet(sort, sort, 4);
            x.cell(sort, 0, 100);
            x.cell(sort, 1, 100);
            x.cell(sort, 2, 1);
            done(x, "fromSheet(" + sort + ", " + sort + ", 0)", x.fromSheet(sort, sort, 0), 2 * sort);
            done(x, "fromSheet(" + sort + ", " + sort + ", 2)", x.fromSheet(sort, sort, 2), 2 * sort + 1);
        }
        due("told(5, 0)", x.told(5, 0), 1);
        due("told(5, 1)", x.told(5, 1), 0);
        due("told(5, 2)", x.told(5, 2), 0);
        refused(x, "fromSheet(0, 0, 3), no next one", x.fromSheet(0, 0, 3), 12);
        refused(x, "fromSheet(0, 0, -1)", x.fromSheet(0, 0, -1), 12);
        refused(x, "fromSheet(0, 0, HIGH)", x.fromSheet(0, 0, HIGH), 12);
        refused(x, "fromSheet(0, 0, LOW)", x.fromSheet(0, 0, LOW), 12);
        refused(x, "fromSheet(0, 1, -1)", x.fromSheet(0, 1, -1), 11);
        refused(x, "fromSheet(3, 1, -1)", x.fromSheet(3, 1, -1), 10);
        refused(x, "fromSheet(3, 3, 0)", x.fromSheet(3, 3, 0), 1);
        refused(x, "fromSheet(0, -1, 0)", x.fromSheet(0, -1, 0), 1);
        refused(x, "fromSheet(6, 0, 0)", x.fromSheet(6, 0, 0), 1);
        refused(x, "fromSheet(-1, 0, 0)", x.fromSheet(-1, 0, 0), 1);
        x.cell(1, 0, 101);
        refused(x, "fromSheet(1, 1, 0), too long", x.fromSheet(1, 1, 0), 3);
        x.cell(1, 0, 0);
        refused(x, "fromSheet(1, 1, 0), no length", x.fromSheet(1, 1, 0), 3);
        x.cell(1, 0, 1);
        x.cell(1, 1, 101);
        refused(x, "fromSheet(1, 1, 0), too heavy", x.fromSheet(1, 1, 0), 3);
        x.sheet(4, 0, 1);
        refused(x, "fromSheet(4, 0, 0) of one number", x.fromSheet(4, 0, 0), 12);
        x.sheet(4, 0, 0);
        refused(x, "fromSheet(4, 0, 0) of no number", x.fromSheet(4, 0, 0), 12);
        due("count(0)", x.count(0), 6);
        for (int job = 6; job < 12; job++) {
            x.job(1, 1);
        }
        refused(x, "fromSheet(0, 0, 0), no room", x.fromSheet(0, 0, 0), 2);
        refused(x, "fromSheet(3, 0, 0), no room and missing", x.fromSheet(3, 0, 0), 2);
        refused(x, "fromSheet(3, 9, 0), no room and no sort", x.fromSheet(3, 9, 0), 1);
    }

    private static void promise28Forge() {
        FellersOrder x = yard(1, 1, 2, 2, 1, 3);
        x.sheet(0, 0, 6);
        x.sheet(1, 1, 8);
        x.sheet(2, 2, 3);
        for (int i = 0; i < 8; i++) {
            x.cell(1, i, 1 << 4 * i);
        }
        int[][] bad = {{0, 7, 0}, {0, -1, 0}, {6, 0, 0}, {-1, 4, 1}, {0, 1, 101}, {0, 4, -101}, {HIGH, LOW, HIGH}};
        for (int[] b : bad) {
            refused(x, "forge(" + b[0] + ", " + b[1] + ", " + b[2] + ")", x.forge(b[0], b[1], b[2]), 1);
        }
        forgeSizes(x);
        forgeCopies(x);
        done(x, "forge(0, 3, 5)", x.forge(0, 3, 5), 6);
        done(x, "forge(3, 3, 5)", x.forge(3, 3, 5), 0);
        refused(x, "forge(1, 3, 5)", x.forge(1, 3, 5), 14);
        refused(x, "forge(2, 3, 5)", x.forge(2, 3, 5), 14);
        done(x, "forge(3, 4, 7)", x.forge(3, 4, 7), 142);
        done(x, "forge(3, 4, -7)", x.forge(3, 4, -7), -142);
        refused(x, "forge(3, 4, 0)", x.forge(3, 4, 0), 15);
        done(x, "forge(3, 5, 1)", x.forge(3, 5, 1), 1);
        done(x, "forge(3, 5, -1)", x.forge(3, 5, -1), 1);
        refused(x, "forge(3, 5, 100)", x.forge(3, 5, 100), 10);
        refused(x, "forge(3, 5, -2)", x.forge(3, 5, -2), 10);
        forgeUnits(x);
    }

    private static void forgeSizes(FellersOrder x) {
        done(x, "forge(0, 0, 0)", x.forge(0, 0, 0), 6);
        done(x, "forge(0, 0, -3)", x.forge(0, 0, -3), 6);
        done(x, "forge(1, 0, -2)", x.forge(1, 0, -2), 8);
        done(x, "forge(2, 0, -100)", x.forge(2, 0, -100), 3);
        refused(x, "forge(2, 0, 100)", x.forge(2, 0, 100), 11);
        refused(x, "forge(3, 0, 0)", x.forge(3, 0, 0), 10);
        done(x, "forge(3, 1, 0)", x.forge(3, 1, 0), 0);
        done(x, "forge(3, 1, 100)", x.forge(3, 1, 100), 100);
        refused(x, "forge(0, 1, -1)", x.forge(0, 1, -1), 13);
    }

    private static void forgeCopies(FellersOrder x) {
        done(x, "forge(1, 2, 0)", x.forge(1, 2, 0), 0);
        done(x, "forge(1, 2, 3)", x.forge(1, 2, 3), 0x1110);
        refused(x, "forge(1, 2, 4)", x.forge(1, 2, 4), 12);
        refused(x, "forge(1, 2, -1)", x.forge(1, 2, -1), 12);
        refused(x, "forge(1, 2, 100)", x.forge(1, 2, 100), 12);
        refused(x, "forge(0, 2, -1)", x.forge(0, 2, -1), 11);
        refused(x, "forge(2, 2, 1)", x.forge(2, 2, 1), 11);
        refused(x, "forge(3, 2, 1)", x.forge(3, 2, 1), 10);
        x.sheet(4, 1, 3);
        x.cell(4, 1, HIGH);
        x.cell(4, 2, 1);
        done(x, "forge(4, 2, 2), wrapping", x.forge(4, 2, 2), LOW);
        refused(x, "forge(4, 2, 3)", x.forge(4, 2, 3), 12);
        x.sheet(4, 1, 1);
        done(x, "forge(4, 2, 0) of one number", x.forge(4, 2, 0), 0);
        x.sheet(4, 1, 0);
        refused(x, "forge(4, 2, 0) of no number", x.forge(4, 2, 0), 12);
    }

    private static void forgeUnits(FellersOrder x) {
        done(x, "forge(3, 6, 0), FIRST", x.forge(3, 6, 0), 1);
        done(x, "forge(3, 6, -12), FIRST", x.forge(3, 6, -12), 1);
        refused(x, "forge(3, 6, 1), JOB", x.forge(3, 6, 1), 11);
        refused(x, "forge(3, 6, 3)", x.forge(3, 6, 3), 10);
        refused(x, "forge(3, 6, -1)", x.forge(3, 6, -1), 10);
        x.lay(1, 2);
        done(x, "forge(3, 6, 26), UNIT", x.forge(3, 6, 26), 1);
        x.set(2, 2, 1);
        refused(x, "forge(3, 6, 2), LATE", x.forge(3, 6, 2), 11);
        x.set(1, 1, 0);
        refused(x, "forge(3, 6, 1), IDLE", x.forge(3, 6, 1), 11);
    }

    private static void promise29Undo() {
        FellersOrder x = new FellersOrder();
        refused(x, "undo() of nothing", x.undo(), 3);
        x.job(3, 4);
        x.job(5, 6);
        x.lay(0, 1);
        x.set(1, 0, 9);
        x.set(1, 2, 8);
        x.free(0, 1);
        x.sheet(0, 0, 2);
        x.cell(0, 0, 7);
        x.fromSheet(0, 0, 0);
        x.put(2);
        x.act(0, 0, 1);
        x.lay(7, 7);
        due("count(6)", x.count(6), 7);
        done(x, "undo() of fromSheet", x.undo(), 1);
        due("count(0)", x.count(0), 2);
        due("count(2)", x.count(2), 0);
        due("forge(0, 0, 0)", x.forge(0, 0, 0), 2);
        done(x, "undo() of free", x.undo(), 1);
        due("ahead(0, 1)", x.ahead(0, 1), 2);
        done(x, "undo() of a moment", x.undo(), 1);
        due("told(1, 2)", x.told(1, 2), 0);
        due("told(1, 0)", x.told(1, 0), 9);
        done(x, "undo() of a length", x.undo(), 1);
        due("told(1, 0)", x.told(1, 0), 5);
        done(x, "undo() of lay", x.undo(), 1);
        due("count(1)", x.count(1), 0);
        done(x, "undo() of job", x.undo(), 1);
        due("count(0)", x.count(0), 1);
        done(x, "job(8, 8)", x.job(8, 8), 1);
        due("count(6)", x.count(6), 2);
        x.undo();
        x.undo();
        refused(x, "undo() of nothing more", x.undo(), 3);
        undoTwelve();
    }

    private static void undoTwelve() {
        FellersOrder x = fullYard();
        for (int v = 3; v <= 7; v++) {
            x.set(11, 0, v);
        }
        for (int i = 0; i < 12; i++) {
            done(x, "undo() " + i, x.undo(), 1);
            due("count(6)", x.count(6), 11 - i);
        }
        due("count(0)", x.count(0), 5);
        x.put(0);
        refused(x, "undo() of a 13th", x.undo(), 3);
        due("count(2) behind an undo() refused", x.count(2), 1);
    }

    private static void promise30Status() {
        FellersOrder x = yard(1, 1);
        x.put(5);
        x.told(0, 0);
        x.ahead(0, 0);
        x.count(0);
        x.keeps();
        x.why(0);
        x.cost();
        x.swap(0);
        x.block(0, 0);
        x.least();
        x.best(0);
        x.many();
        x.fixed(0, 0);
        x.series();
        x.shows(0);
        x.turned();
        x.trace(0);
        due("status() behind questions", x.status(), 1);
        due("status() again", x.status(), 1);
        x.clear();
        due("status() behind clear", x.status(), 0);
        x.forge(0, 4, 0);
        due("status() behind forge", x.status(), 15);
        x.sheet(0, -1, 0);
        due("status() behind sheet", x.status(), 0);
    }
}
