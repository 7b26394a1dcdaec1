/** The edges that "What it is" and "Terms" name, a test for each sentence. */
public final class TermsEdgesTest extends Checks {
    public static void main(String[] args) {
        test("at most 512 calls: changes", TermsEdgesTest::changesUpToCall512);
        test("at most 512 calls: acts", TermsEdgesTest::actsUpToCall512);
        test("at most 512 calls: sheets", TermsEdgesTest::sheetsUpToCall512);
        test("at most 512 calls: plans", TermsEdgesTest::plansUpToCall512);
        test("JOBS 0 .. 11 (12 at most)", TermsEdgesTest::twelveJobsAtMost);
        test("JOBS: numbered as they come", TermsEdgesTest::numbersAsTheyCome);
        test("a LENGTH 1 .. 100", TermsEdgesTest::lengths);
        test("a WEIGHT 0 .. 100", TermsEdgesTest::weights);
        test("a MOMENT 0 .. 500", TermsEdgesTest::moments);
        test("AHEAD if laid, or ahead of one that is", TermsEdgesTest::aheadThroughOthers);
        test("No JOB ever must come AHEAD of itself", TermsEdgesTest::noRing);
        test("KINDS, told by the first that fits", TermsEdgesTest::kinds);
        test("4 LATE: the MOMENT is above 0", TermsEdgesTest::lateAboveMoment0);
        test("3 FIRST: nothing must come AHEAD of it", TermsEdgesTest::firstTillSomethingIsAhead);
        test("THE ORDER: each there once at most", TermsEdgesTest::onceInTheOrder);
        test("It KEEPS if all JOBS are in it", TermsEdgesTest::keepsWithAllJobs);
        test("It KEEPS if each is behind all that must come AHEAD", TermsEdgesTest::keepsBehindAll);
        test("COST: the first one at 0", TermsEdgesTest::firstBeginsAt0);
        test("COST: not ahead of its MOMENT", TermsEdgesTest::notAheadOfItsMoment);
        test("COST: the greatest", TermsEdgesTest::greatestCost);
        test("BLOCKS: the greatest of the greatest RATIO", TermsEdgesTest::greatestOfTheGreatestRatio);
        test("BLOCKS: a RATIO greater by a hair", TermsEdgesTest::ratioGreaterByAHair);
        test("BLOCKS: of no WEIGHT", TermsEdgesTest::blocksOfNoWeight);
        test("BLOCKS: till none is left", TermsEdgesTest::blocksTillNoneIsLeft);
        test("BEGINNING: all that must come AHEAD", TermsEdgesTest::blockHasAllThatIsAhead);
        test("LEAST: the MOMENTS taken for 0", TermsEdgesTest::leastWithoutMoments);
        test("BEST: the least JOB first", TermsEdgesTest::bestHasLeastJobFirst);
        test("FIXED: in all of these", TermsEdgesTest::fixedInAll);
        test("SERIES: no four JOBS", TermsEdgesTest::seriesUnlessFour);
        test("ACTS: 32 bits, wrapping: JOB", TermsEdgesTest::jobBodiesWrap);
        test("ACTS: 32 bits, wrapping: UNIT", TermsEdgesTest::unitBodiesWrap);
        test("ACTS: 32 bits, wrapping: IDLE", TermsEdgesTest::idleBodiesWrap);
        test("ACTS: 32 bits, wrapping: FIRST", TermsEdgesTest::firstBodiesWrap);
        test("ACTS: 32 bits, wrapping: LATE", TermsEdgesTest::lateBodiesWrap);
        test("the body of the JOB's KIND (as it is now)", TermsEdgesTest::kindAsItIsNow);
        test("THE TRACE: of the latest act()", TermsEdgesTest::traceOfTheLatestAct);
        test("THE TRACE: what stands further left is worked out first", TermsEdgesTest::traceFromTheLeft);
        test("THE TRACE: the first 50 are kept", TermsEdgesTest::longestTrace);
        test("SHEETS 0 .. 5", TermsEdgesTest::sixSheets);
        test("SHEETS missing (as all are at first)", TermsEdgesTest::missingAtFirst);
        test("SHEETS of sort 0: from -32768 to 32767", TermsEdgesTest::shorts);
        test("SHEETS of sort 1 (ints) or 2 (longs)", TermsEdgesTest::intsAndLongs);
        test("Where several hold, the lowest", TermsEdgesTest::lowestStatus);
        test("UNDO: the latest that was done", TermsEdgesTest::undoOfWhatWasDone);
        test("UNDO: that was not taken back", TermsEdgesTest::undoOnceEach);
        test("UNDO: 12 at most", TermsEdgesTest::undoTwelveAtMost);
        test("UNDO: THE ORDER is empty then", TermsEdgesTest::undoEmptiesTheOrder);
        finish();
    }

    private static void changesUpToCall512() {
        FellersOrder x = fullYard();
        int former = 2;
        for (int call = 13; call <= 500; call++) {
            int v = 1 + call % 100;
            due("set at call " + call, x.set(11, 0, v), former);
            former = v;
        }
        for (int call = 501; call <= 511; call++) {
            due("undo at call " + call, x.undo(), 1);
        }
        due("told(11, 0) at call 512", x.told(11, 0), 1 + 489 % 100);
    }

    private static void actsUpToCall512() {
        FellersOrder x = yard(1, 3);
        for (int call = 2; call <= 511; call++) {
            due("act at call " + call, x.act(0, 0, call), (call + 1) * 2 + call);
        }
        due("count(5) at call 512", x.count(5), 4);
    }

    private static void sheetsUpToCall512() {
        FellersOrder x = new FellersOrder();
        for (int call = 1; call <= 255; call++) {
            due("sheet at call " + 2 * call, x.sheet(call % 6, 1, 20), 1);
            due("cell at call " + (2 * call + 1), x.cell(call % 6, 1 + call % 3, call), 1);
        }
        due("forge(3, 2, 3) at call 511", x.forge(3, 2, 3), 255);
        due("forge(2, 0, 1) at call 512", x.forge(2, 0, 1), 20);
    }

    private static void plansUpToCall512() {
        FellersOrder x = fullYard();
        for (int i = 0; i < 166; i++) {
            int v = 1 + i % 2;
            x.set(0, 1, v);
            due("fixed(1, 0)", x.fixed(1, 0), v == 1 ? 1 : 0);
            due("best(0)", x.best(0), v == 1 ? 1 : 0);
        }
        x.set(0, 1, 3);
        due("many() at call 512", x.many(), 39916800);
    }

    private static void twelveJobsAtMost() {
        FellersOrder x = alike(11);
        done(x, "the 12th job", x.job(1, 1), 11);
        refused(x, "a 13th job", x.job(1, 1), 2);
        due("count(0)", x.count(0), 12);
        due("told(11, 0)", x.told(11, 0), 1);
        due("told(12, 0)", x.told(12, 0), -1);
        due("told(0, 0)", x.told(0, 0), 2);
        due("told(-1, 0)", x.told(-1, 0), -1);
        x.undo();
        due("told(11, 0) of eleven", x.told(11, 0), -1);
        due("told(10, 0) of eleven", x.told(10, 0), 2);
        done(x, "the 12th job again", x.job(3, 3), 11);
        refused(x, "a 13th job again", x.job(1, 1), 2);
    }

    private static void numbersAsTheyCome() {
        FellersOrder x = new FellersOrder();
        x.sheet(0, 0, 2);
        x.cell(0, 0, 50);
        for (int job = 0; job < 12; job += 2) {
            done(x, "job", x.job(job + 1, 1), job);
            done(x, "fromSheet", x.fromSheet(0, 0, 0), job + 1);
        }
        for (int job = 0; job < 12; job++) {
            due("told(" + job + ", 0)", x.told(job, 0), job % 2 == 0 ? job + 1 : 50);
        }
    }

    private static void lengths() {
        FellersOrder x = yard(1, 5, 100, 5);
        due("told(0, 0)", x.told(0, 0), 1);
        due("told(1, 0)", x.told(1, 0), 100);
        done(x, "set(0, 0, 100)", x.set(0, 0, 100), 1);
        done(x, "set(0, 0, 1)", x.set(0, 0, 1), 100);
        for (int v : new int[] {0, 101, -1, LOW, HIGH, 256 + 7, 65536 + 7}) {
            refused(x, "job(" + v + ", 5)", x.job(v, 5), 1);
            refused(x, "set(0, 0, " + v + ")", x.set(0, 0, v), 1);
        }
        due("told(0, 0)", x.told(0, 0), 1);
        due("count(0)", x.count(0), 2);
    }

    private static void weights() {
        FellersOrder x = yard(5, 0, 5, 100);
        due("told(0, 1)", x.told(0, 1), 0);
        due("told(1, 1)", x.told(1, 1), 100);
        done(x, "set(0, 1, 100)", x.set(0, 1, 100), 0);
        done(x, "set(0, 1, 0)", x.set(0, 1, 0), 100);
        for (int v : new int[] {-1, 101, LOW, HIGH, 256 + 7, 65536 + 7}) {
            refused(x, "job(5, " + v + ")", x.job(5, v), 1);
            refused(x, "set(0, 1, " + v + ")", x.set(0, 1, v), 1);
        }
        due("told(0, 1)", x.told(0, 1), 0);
        due("count(0)", x.count(0), 2);
    }

    private static void moments() {
        FellersOrder x = yard(5, 5);
        due("told(0, 2) of a new job", x.told(0, 2), 0);
        done(x, "set(0, 2, 500)", x.set(0, 2, 500), 0);
        for (int v : new int[] {-1, 501, LOW, HIGH, 65536 + 7}) {
            refused(x, "set(0, 2, " + v + ")", x.set(0, 2, v), 1);
        }
        due("told(0, 2)", x.told(0, 2), 500);
        done(x, "set(0, 2, 101)", x.set(0, 2, 101), 500);
        done(x, "set(0, 2, 0)", x.set(0, 2, 0), 101);
    }

    private static void aheadThroughOthers() {
        FellersOrder x = chain(12);
        for (int a = 0; a < 12; a++) {
            for (int b = 0; b < 12; b++) {
                due("ahead(" + a + ", " + b + ")", x.ahead(a, b), b == a + 1 ? 2 : b > a ? 1 : 0);
            }
        }
        x.free(5, 6);
        due("ahead(0, 5)", x.ahead(0, 5), 1);
        due("ahead(0, 6), the chain cut", x.ahead(0, 6), 0);
        due("ahead(6, 11)", x.ahead(6, 11), 1);
        x.lay(4, 7);
        due("ahead(0, 11), another way", x.ahead(0, 11), 1);
        due("ahead(0, 6)", x.ahead(0, 6), 0);
    }

    private static void noRing() {
        for (int jobs = 1; jobs <= 12; jobs++) {
            FellersOrder x = chain(jobs);
            for (int first = 0; first < jobs; first++) {
                refused(x, "a ring from " + first + " of " + jobs, x.lay(jobs - 1, first), 3);
                due("ahead of itself", x.ahead(first, first), 0);
            }
            due("count(1)", x.count(1), jobs - 1);
        }
    }

    private static void kinds() {
        int[] want = {3, 3, 1, 1, 2, 0, 2, 0, 4, 4, 4, 4, 4, 4, 4, 4};
        for (int i = 0; i < 16; i++) {
            int moment = i >> 3 & 1;
            int length = 1 + (i >> 2 & 1);
            int aheadOfIt = i >> 1 & 1;
            int weight = i & 1;
            FellersOrder x = yard(length, weight, 5, 5);
            x.set(0, 2, moment);
            if (aheadOfIt == 1) {
                x.lay(1, 0);
            } else {
                x.lay(0, 1);
            }
            String job = "the kind of moment " + moment + ", length " + length + ", " + aheadOfIt + " ahead, weight " + weight;
            due(job, x.told(0, 3), want[i]);
        }
        due("the kind of length 100, weight 100", yard(100, 100).told(0, 3), 0);
        due("the kind of length 100, weight 0", yard(100, 0).told(0, 3), 2);
    }

    private static void lateAboveMoment0() {
        FellersOrder x = yard(5, 5);
        for (int moment : new int[] {0, 1, 500, 0}) {
            x.set(0, 2, moment);
            due("the kind at moment " + moment, x.told(0, 3), moment == 0 ? 0 : 4);
        }
    }

    private static void firstTillSomethingIsAhead() {
        FellersOrder x = yard(1, 1, 5, 5, 5, 5);
        x.lay(0, 1);
        due("the kind, ahead of another", x.told(0, 3), 3);
        x.free(0, 1);
        x.lay(1, 0);
        x.lay(2, 1);
        due("the kind behind another", x.told(0, 3), 1);
        x.free(1, 0);
        due("the kind, freed", x.told(0, 3), 3);
        x.undo();
        due("the kind, bound by undo", x.told(0, 3), 1);
    }

    private static void onceInTheOrder() {
        FellersOrder x = fullYard();
        for (int job = 0; job < 12; job++) {
            done(x, "put(" + job + ")", x.put(job), job + 1);
            for (int before = 0; before <= job; before++) {
                refused(x, "put(" + before + ") again", x.put(before), 3);
            }
        }
        due("count(2)", x.count(2), 12);
        due("told(0, 6)", x.told(0, 6), 0);
        due("told(11, 6)", x.told(11, 6), 11);
    }

    private static void keepsWithAllJobs() {
        due("keeps() of no jobs", new FellersOrder().keeps(), 1);
        FellersOrder x = fullYard();
        due("keeps() of none of twelve", x.keeps(), 0);
        for (int job = 11; job >= 0; job--) {
            x.put(job);
            due("keeps() without " + job, x.keeps(), job == 0 ? 1 : 0);
        }
        x.clear();
        due("keeps() behind clear", x.keeps(), 0);
    }

    private static void keepsBehindAll() {
        FellersOrder x = chain(3);
        int[][] orders = {{0, 1, 2}, {0, 2, 1}, {1, 0, 2}, {1, 2, 0}, {2, 0, 1}, {2, 1, 0}};
        for (int i = 0; i < orders.length; i++) {
            putAll(x, orders[i]);
            due("keeps() of order " + i, x.keeps(), i == 0 ? 1 : 0);
        }
        x.free(0, 1);
        putAll(x, 1, 2, 0);
        due("keeps(), one pair free", x.keeps(), 1);
        x.lay(0, 2);
        due("keeps(), another laid", x.keeps(), 0);
    }

    private static void firstBeginsAt0() {
        FellersOrder x = yard(1, 1, 100, 100);
        due("cost() of none", x.cost(), 0);
        putAll(x, 0);
        due("cost() of the shortest", x.cost(), 1);
        putAll(x, 1);
        due("cost() of the longest", x.cost(), 10000);
    }

    private static void notAheadOfItsMoment() {
        FellersOrder x = yard(10, 1, 5, 2, 3, 4);
        putAll(x, 0, 1, 2);
        int[][] momentAndCost = {{0, 112}, {9, 112}, {10, 112}, {11, 118}, {500, 10 + 2 * 505 + 4 * 508}};
        for (int[] m : momentAndCost) {
            x.set(1, 2, m[0]);
            due("cost() with moment " + m[0], x.cost(), m[1]);
        }
        x.set(1, 2, 0);
        x.set(0, 2, 1);
        due("cost() with the first one's moment 1", x.cost(), 112 + 7);
    }

    private static void greatestCost() {
        FellersOrder x = new FellersOrder();
        for (int job = 0; job < 12; job++) {
            x.job(100, 100);
            x.set(job, 2, 500);
            x.put(job);
        }
        due("cost()", x.cost(), 100 * (12 * 600 + 100 * 66));
        due("least()", x.least(), 100 * 100 * 78);
        due("turned()", x.turned(), 100 * 100 * 78);
    }

    private static void greatestOfTheGreatestRatio() {
        FellersOrder x = yard(50, 49, 100, 98, 100, 97, 2, 0);
        due("block(0, 0), two of one ratio", x.block(0, 0), 3);
        due("block(0, 1)", x.block(0, 1), 147);
        due("block(0, 2)", x.block(0, 2), 150);
        due("block(1, 0)", x.block(1, 0), 4);
        due("block(2, 0)", x.block(2, 0), 8);
        due("block(3, 0)", x.block(3, 0), -1);
        FellersOrder alike = chain(12);
        due("block(0, 0) of twelve of one ratio", alike.block(0, 0), 4095);
        due("count(3) of twelve of one ratio", alike.count(3), 1);
    }

    private static void ratioGreaterByAHair() {
        FellersOrder x = yard(99, 98, 100, 99);
        due("block(0, 0)", x.block(0, 0), 2);
        due("block(1, 0)", x.block(1, 0), 1);
        x.lay(0, 1);
        due("block(0, 0), laid", x.block(0, 0), 3);
        due("count(3), laid", x.count(3), 1);
        x.undo();
        x.lay(1, 0);
        due("block(0, 0), laid as it is", x.block(0, 0), 2);
        due("count(3), laid as it is", x.count(3), 2);
    }

    private static void blocksOfNoWeight() {
        FellersOrder x = yard(5, 0);
        due("count(3) of one of no weight", x.count(3), 1);
        due("block(0, 0)", x.block(0, 0), 1);
        due("block(0, 1)", x.block(0, 1), 0);
        due("block(0, 2)", x.block(0, 2), 5);
        x.job(100, 1);
        x.job(7, 0);
        due("block(0, 0) of the only one of weight", x.block(0, 0), 2);
        due("block(1, 0) of the others", x.block(1, 0), 5);
        x.lay(0, 1);
        due("block(0, 0) with one of no weight ahead", x.block(0, 0), 3);
        due("block(1, 0) of the last", x.block(1, 0), 4);
    }

    private static void blocksTillNoneIsLeft() {
        due("count(3) of no jobs", new FellersOrder().count(3), 0);
        FellersOrder x = new FellersOrder();
        for (int job = 0; job < 12; job++) {
            x.job(1, job);
            due("count(3) of " + (job + 1), x.count(3), job + 1);
            due("block(0, 0)", x.block(0, 0), 1 << job);
            due("the last block", x.block(job, 0), 1);
            due("behind the last block", x.block(job + 1, 0), -1);
        }
    }

    private static void blockHasAllThatIsAhead() {
        FellersOrder x = yard(100, 0, 100, 0, 1, 100, 1, 50);
        x.lay(0, 1);
        x.lay(1, 2);
        due("block(0, 0)", x.block(0, 0), 8);
        due("block(1, 0), with two ahead", x.block(1, 0), 7);
        x.free(0, 1);
        due("block(1, 0), with one ahead", x.block(1, 0), 6);
        due("block(2, 0)", x.block(2, 0), 1);
    }

    private static void leastWithoutMoments() {
        FellersOrder x = yard(3, 1, 1, 3);
        x.set(1, 2, 500);
        due("least()", x.least(), 3 * 1 + 1 * 4);
        due("best(0)", x.best(0), 1);
        due("many()", x.many(), 1);
        due("fixed(1, 0)", x.fixed(1, 0), 1);
        due("block(0, 0)", x.block(0, 0), 2);
        putAll(x, 1, 0);
        due("cost()", x.cost(), 3 * 501 + 504);
    }

    private static void bestHasLeastJobFirst() {
        FellersOrder x = fullYard();
        for (int i = 0; i < 12; i++) {
            due("best(" + i + ")", x.best(i), i);
        }
        due("many()", x.many(), 479001600);
        x.lay(3, 0);
        int[] want = {1, 2, 3, 0, 4, 5, 6, 7, 8, 9, 10, 11};
        for (int i = 0; i < 12; i++) {
            due("best(" + i + "), 3 ahead of 0", x.best(i), want[i]);
        }
        due("many(), 3 ahead of 0", x.many(), 239500800);
    }

    private static void fixedInAll() {
        FellersOrder x = yard(2, 2, 3, 3, 4, 4);
        due("many()", x.many(), 6);
        x.lay(0, 1);
        due("fixed(0, 1), in all three", x.fixed(0, 1), 1);
        due("fixed(0, 2), in two of three", x.fixed(0, 2), 0);
        due("fixed(2, 0), in one of three", x.fixed(2, 0), 0);
        x.set(2, 1, 5);
        due("fixed(2, 0), of greater ratio", x.fixed(2, 0), 1);
        due("fixed(0, 2), of less ratio", x.fixed(0, 2), 0);
        x.set(2, 1, 3);
        due("fixed(0, 2), of greater ratio", x.fixed(0, 2), 1);
        due("fixed(2, 1)", x.fixed(2, 1), 0);
    }

    private static void seriesUnlessFour() {
        int[][] laid = {{0, 2}, {1, 2}, {1, 3}};
        for (int without = 0; without < 3; without++) {
            FellersOrder x = alike(4);
            for (int i = 0; i < 3; i++) {
                if (i != without) {
                    x.lay(laid[i][0], laid[i][1]);
                }
            }
            due("series() without pair " + without, x.series(), 1);
            x.lay(laid[without][0], laid[without][1]);
            due("series() with all three", x.series(), 0);
        }
        int[][] closing = {{0, 1}, {1, 0}, {0, 3}, {2, 3}, {3, 2}};
        for (int[] pair : closing) {
            FellersOrder x = crossing();
            due("lay(" + pair[0] + ", " + pair[1] + ")", x.lay(pair[0], pair[1]), 1);
            due("series() then", x.series(), 1);
        }
        // With 3 ahead of 0 the pairs laid become a line that 1 begins.
        FellersOrder x = crossing();
        x.lay(3, 0);
        due("series() with 3 ahead of 0", x.series(), 1);
    }

    private static void jobBodiesWrap() {
        FellersOrder x = yard(3, 5, 2, 1, 2, 1);
        x.lay(0, 2);
        done(x, "last", x.act(0, 0, HIGH - 3), HIGH);
        done(x, "last, wrapping", x.act(0, 0, HIGH - 2), LOW);
        done(x, "last of LOW", x.act(0, 0, LOW), LOW + 3);
        done(x, "weigh", x.act(0, 1, 429496726), 2147483645);
        done(x, "weigh, wrapping", x.act(0, 1, 429496727), LOW + 2);
        done(x, "weigh of HIGH", x.act(0, 1, HIGH), LOW + 10);
        done(x, "follow", x.act(2, 2, HIGH - 1), HIGH);
        done(x, "follow, wrapping", x.act(2, 2, HIGH), LOW);
        done(x, "follow of none ahead", x.act(1, 2, HIGH), HIGH);
        done(x, "tell of HIGH", x.act(1, 3, HIGH), 2);
        done(x, "tell", x.act(0, 3, 536870908), 4 * 536870908 + 15);
        done(x, "tell, wrapping", x.act(0, 3, 536870909), LOW + 3);
    }

    private static void unitBodiesWrap() {
        FellersOrder x = yard(1, 0, 5, 5);
        x.lay(1, 0);
        done(x, "last", x.act(0, 0, 1073741822), HIGH - 1);
        done(x, "last, wrapping", x.act(0, 0, 1073741823), LOW);
        done(x, "last of HIGH", x.act(0, 0, HIGH), 0);
        done(x, "tell of HIGH", x.act(0, 3, HIGH), HIGH - 3);
        done(x, "tell of LOW", x.act(0, 3, LOW), (HIGH - 1) ^ 3);
        done(x, "tell of -2", x.act(0, 3, -2), 3);
    }

    private static void idleBodiesWrap() {
        FellersOrder x = yard(2, 0);
        done(x, "weigh of HIGH", x.act(0, 1, HIGH), 2);
        done(x, "tell", x.act(0, 3, LOW + 3), HIGH);
        done(x, "tell, wrapping", x.act(0, 3, LOW + 2), LOW);
        done(x, "tell of LOW", x.act(0, 3, LOW), LOW + 2);
    }

    private static void firstBodiesWrap() {
        FellersOrder x = yard(1, 1);
        done(x, "follow", x.act(0, 2, LOW + 7), LOW);
        done(x, "follow, wrapping", x.act(0, 2, LOW + 6), HIGH);
        done(x, "last", x.act(0, 0, 715827881), 2147483645);
        done(x, "last, wrapping", x.act(0, 0, 715827882), LOW);
        done(x, "last of HIGH", x.act(0, 0, HIGH), HIGH);
        done(x, "tell of HIGH", x.act(0, 3, HIGH), 9 ^ 3);
    }

    private static void lateBodiesWrap() {
        FellersOrder x = yard(100, 5, 1, 1);
        x.set(0, 2, 500);
        x.set(1, 2, 1);
        done(x, "last", x.act(0, 0, HIGH - 600), HIGH);
        done(x, "last, wrapping", x.act(0, 0, HIGH - 599), LOW);
        done(x, "last of HIGH", x.act(0, 0, HIGH), LOW + 599);
        done(x, "tell", x.act(1, 3, 1073741823), HIGH - 1);
        done(x, "tell, wrapping", x.act(1, 3, 1073741824), LOW);
    }

    private static void kindAsItIsNow() {
        FellersOrder x = yard(1, 3, 5, 5);
        done(x, "last of a FIRST", x.act(0, 0, 10), 22 + 10);
        x.lay(1, 0);
        done(x, "last of a UNIT", x.act(0, 0, 10), 22);
        x.set(0, 0, 2);
        done(x, "last of a JOB", x.act(0, 0, 10), 12);
        x.set(0, 2, 1);
        done(x, "last of a LATE", x.act(0, 0, 10), 13);
        traceIs(x, 50, 10);
        x.undo();
        x.set(0, 1, 0);
        done(x, "weigh of an IDLE", x.act(0, 1, 10), 2);
        traceIs(x, 30, 11, 10);
    }

    private static void traceOfTheLatestAct() {
        FellersOrder x = yard(1, 1, 5, 5);
        traceIs(x);
        x.act(0, 3, 1);
        x.act(1, 2, 1);
        traceIs(x, 12);
        x.act(2, 0, 1);
        traceIs(x, 12);
        x.act(1, 4, 1);
        traceIs(x, 12);
    }

    private static void traceFromTheLeft() {
        FellersOrder x = yard(1, 4, 5, 5, 6, 0);
        x.act(0, 0, 1);
        traceIs(x, 41, 20, 10, 12);
        x.act(1, 3, 1);
        traceIs(x, 13, 11, 10, 12);
        x.act(2, 3, 1);
        traceIs(x, 13, 30, 11, 10, 12);
        x.set(0, 2, 500);
        x.act(0, 3, 1);
        traceIs(x, 51, 12, 13, 11, 50, 10, 12);
    }

    private static void longestTrace() {
        FellersOrder x = yard(1, 1);
        x.act(0, 3, 1);
        traceIs(x, 21, 13, 11, 41, 20, 10, 12, 40, 12);
        due("trace(49)", x.trace(49), -1);
        due("trace(50)", x.trace(50), -1);
    }

    private static void sixSheets() {
        FellersOrder x = new FellersOrder();
        for (int sheet = 0; sheet <= 5; sheet++) {
            done(x, "sheet(" + sheet + ", 0, 1)", x.sheet(sheet, 0, sheet), 1);
        }
        for (int sheet = 0; sheet <= 5; sheet++) {
            done(x, "forge(" + sheet + ", 0, 0)", x.forge(sheet, 0, 0), sheet);
        }
        for (int sheet : new int[] {-1, 6, LOW, HIGH}) {
            refused(x, "sheet(" + sheet + ", 0, 1)", x.sheet(sheet, 0, 1), 1);
            refused(x, "sheet(" + sheet + ", -1, 1)", x.sheet(sheet, -1, 1), 1);
            refused(x, "cell(" + sheet + ", 0, 1)", x.cell(sheet, 0, 1), 1);
            refused(x, "fromSheet(" + sheet + ", 0, 0)", x.fromSheet(sheet, 0, 0), 1);
            refused(x, "forge(" + sheet + ", 1, 1)", x.forge(sheet, 1, 1), 1);
        }
    }

    private static void missingAtFirst() {
        FellersOrder x = new FellersOrder();
        for (int sheet = 0; sheet <= 5; sheet++) {
            refused(x, "cell(" + sheet + ", 0, 1)", x.cell(sheet, 0, 1), 10);
            done(x, "forge(" + sheet + ", 3, 0)", x.forge(sheet, 3, 0), 0);
            for (int sort = 0; sort <= 2; sort++) {
                refused(x, "forge(" + sheet + ", 0, " + sort + ")", x.forge(sheet, 0, sort), 10);
                refused(x, "fromSheet(" + sheet + ", " + sort + ", 0)", x.fromSheet(sheet, sort, 0), 10);
            }
        }
    }

    private static void shorts() {
        FellersOrder x = new FellersOrder();
        x.sheet(0, 0, 2);
        int[][] numberAndLength = {
            {65536 + 1, 1}, {-65536 + 1, 1}, {65536 + 100, 100}, {-65536 + 100, 100}, {LOW + 7, 7}, {HIGH - 65535 + 9, 9},
        };
        for (int[] n : numberAndLength) {
            done(x, "cell(0, 0, " + n[0] + ")", x.cell(0, 0, n[0]), 1);
            done(x, "fromSheet(0, 0, 0)", x.fromSheet(0, 0, 0), 0);
            due("told(0, 0)", x.told(0, 0), n[1]);
            x.undo();
        }
        for (int v : new int[] {32767, 32768, -32768, -32769, 65535, 65536, -65536, HIGH, LOW}) {
            done(x, "cell(0, 0, " + v + ")", x.cell(0, 0, v), 1);
            refused(x, "fromSheet(0, 0, 0) of " + v, x.fromSheet(0, 0, 0), 3);
        }
    }

    private static void intsAndLongs() {
        FellersOrder x = new FellersOrder();
        x.sheet(1, 1, 4);
        x.sheet(2, 2, 4);
        for (int v : new int[] {32767, 32768, -32768, -32769, 65536 + 7, HIGH, LOW}) {
            done(x, "cell(1, 1, " + v + ")", x.cell(1, 1, v), 1);
            done(x, "forge(1, 2, 1) of " + v, x.forge(1, 2, 1), v);
            refused(x, "fromSheet(1, 1, 1) of " + v, x.fromSheet(1, 1, 1), 3);
            done(x, "cell(2, 1, " + v + ")", x.cell(2, 1, v), 1);
            refused(x, "fromSheet(2, 2, 1) of " + v, x.fromSheet(2, 2, 1), 3);
        }
        x.cell(2, 1, 100);
        done(x, "fromSheet(2, 2, 1)", x.fromSheet(2, 2, 1), 0);
        due("told(0, 0)", x.told(0, 0), 100);
    }

    private static void lowestStatus() {
        FellersOrder x = fullYard();
        refused(x, "no length and no room", x.job(0, 1), 1);
        refused(x, "no weight and no room", x.job(1, 101), 1);
        refused(x, "no such job, twice the same", x.lay(12, 12), 1);
        refused(x, "no such job, not laid", x.free(0, -1), 1);
        refused(x, "no such job, not in the order", x.put(12), 1);
        refused(x, "a missing sheet and a place outside", x.cell(0, -1, 1), 10);
        refused(x, "no such sheet and a place outside", x.cell(6, 99, 1), 1);
        refused(x, "no such sort and no room", x.fromSheet(0, 3, 0), 1);
        refused(x, "no room and a missing sheet", x.fromSheet(0, 0, 0), 2);
        x.sheet(0, 0, 1);
        refused(x, "forge: another sort and a place outside", x.forge(0, 2, -1), 11);
        refused(x, "forge: a missing sheet and a place outside", x.forge(1, 2, -1), 10);
        refused(x, "forge: n outside and a size below 0", x.forge(0, 1, -101), 1);
        refused(x, "forge: no such sheet, divided by 0", x.forge(6, 4, 0), 1);
        refused(x, "forge: n outside and a missing sheet", x.forge(1, 0, 101), 1);
    }

    private static void undoOfWhatWasDone() {
        FellersOrder x = yard(3, 4, 5, 6);
        x.set(0, 0, 7);
        x.set(0, 0, 101);
        x.job(0, 0);
        x.lay(0, 0);
        x.free(0, 1);
        x.fromSheet(0, 0, 0);
        x.sheet(0, 0, 2);
        x.cell(0, 0, 9);
        x.put(0);
        x.clear();
        x.act(0, 0, 1);
        x.forge(0, 1, 1);
        due("count(6)", x.count(6), 3);
        done(x, "undo()", x.undo(), 1);
        due("told(0, 0)", x.told(0, 0), 3);
        due("forge(0, 0, 0)", x.forge(0, 0, 0), 2);
        due("count(5)", x.count(5), 1);
        done(x, "fromSheet(0, 0, 0)", x.fromSheet(0, 0, 0), 2);
        due("told(2, 0)", x.told(2, 0), 9);
    }

    private static void undoOnceEach() {
        FellersOrder x = yard(3, 4);
        x.set(0, 0, 7);
        x.undo();
        x.set(0, 1, 8);
        x.undo();
        due("told(0, 0)", x.told(0, 0), 3);
        due("told(0, 1)", x.told(0, 1), 4);
        due("count(6)", x.count(6), 1);
        done(x, "undo() of the job", x.undo(), 1);
        due("count(0)", x.count(0), 0);
        refused(x, "undo() of nothing", x.undo(), 3);
    }

    private static void undoTwelveAtMost() {
        for (int changes = 11; changes <= 13; changes++) {
            FellersOrder x = new FellersOrder();
            x.job(1, 1);
            for (int v = 2; v <= changes; v++) {
                x.set(0, 0, v);
            }
            int most = Math.min(changes, 12);
            for (int left = most; left > 0; left--) {
                due("count(6)", x.count(6), left);
                done(x, "undo() of " + changes + ", " + left + " left", x.undo(), 1);
            }
            due("count(0) of " + changes, x.count(0), changes == 13 ? 1 : 0);
            due("told(0, 0) of " + changes, x.told(0, 0), changes == 13 ? 1 : -1);
            refused(x, "undo() of no more", x.undo(), 3);
        }
        FellersOrder x = spent();
        due("count(6) of a yard that is spent", x.count(6), 0);
        x.set(3, 0, 9);
        due("count(6) of one more change", x.count(6), 1);
        done(x, "undo() of it", x.undo(), 1);
        due("told(3, 0)", x.told(3, 0), 2);
        refused(x, "undo() of no more", x.undo(), 3);
    }

    private static void undoEmptiesTheOrder() {
        FellersOrder x = fullYard();
        for (int job = 0; job < 12; job++) {
            x.put(job);
        }
        done(x, "undo() of the last job", x.undo(), 1);
        due("count(2)", x.count(2), 0);
        due("told(0, 6)", x.told(0, 6), -1);
        due("cost()", x.cost(), 0);
        done(x, "undo() with an empty order", x.undo(), 1);
        due("count(2)", x.count(2), 0);
        FellersOrder none = spent();
        putAll(none, 5, 6);
        refused(none, "undo() of nothing", none.undo(), 3);
        due("count(2) as before", none.count(2), 2);
    }
}
