/** The edges that promises 23 and 25 to 28 name, a test for each sentence. */
public final class HostEdgesTest extends Checks {
    public static void main(String[] args) {
        test("23: act: no such JOB", HostEdgesTest::actOfNoJob);
        test("23: act: no such ACT", HostEdgesTest::actOfNoAct);
        test("23: act: what it answers (any number)", HostEdgesTest::actAnswersMinus1);
        test("23: act: f, how many must come AHEAD of it", HostEdgesTest::actWithNoneAndAllAhead);
        test("23: act: l, w, t at their bounds", HostEdgesTest::actAtTheBounds);
        test("25: sheet: no such SHEET", HostEdgesTest::sheetOfNoSheet);
        test("25: sheet: a sort (0 .. 2)", HostEdgesTest::sheetSorts);
        test("25: sheet: n (0 .. 20) numbers", HostEdgesTest::sheetSizes);
        test("25: sheet: all 0", HostEdgesTest::sheetAllZero);
        test("25: sheet: sort -1: missing from now on", HostEdgesTest::sheetMissing);
        test("25: sheet: n does not matter", HostEdgesTest::sheetMissingWithAnyN);
        test("26: cell: no such SHEET", HostEdgesTest::cellOfNoSheet);
        test("26: cell: nothing there", HostEdgesTest::cellOfMissing);
        test("26: cell: a place outside", HostEdgesTest::cellOutside);
        test("26: cell: cut to the sort's bits", HostEdgesTest::cellCut);
        test("26: cell: number i alone", HostEdgesTest::cellAlone);
        test("27: fromSheet: no such SHEET, sort", HostEdgesTest::fromSheetOfNone);
        test("27: fromSheet: no room", HostEdgesTest::fromSheetWithoutRoom);
        test("27: fromSheet: nothing there", HostEdgesTest::fromSheetOfMissing);
        test("27: fromSheet: of another sort", HostEdgesTest::fromSheetOfAnotherSort);
        test("27: fromSheet: a place outside", HostEdgesTest::fromSheetOutside);
        test("27: fromSheet: they are no LENGTH, no WEIGHT", HostEdgesTest::fromSheetOfNoJob);
        test("27: fromSheet: these in this order", HostEdgesTest::fromSheetInThisOrder);
        test("28: forge: another", HostEdgesTest::forgeOfAnother);
        test("28: forge: no such SHEET", HostEdgesTest::forgeOfNoSheet);
        test("28: forge: n outside -100 .. 100", HostEdgesTest::forgeOutside);
        test("28: forge 0: sort n modulo 3 (also for n below 0)", HostEdgesTest::forgeSorts);
        test("28: forge 0: how many numbers", HostEdgesTest::forgeHowMany);
        test("28: forge 1: a row of n numbers", HostEdgesTest::forgeRow);
        test("28: forge 2: taken for one of sort 1", HostEdgesTest::forgeCopyOfSort);
        test("28: forge 2: n below 0", HostEdgesTest::forgeCopyBelow0);
        test("28: forge 2: they stand in the SHEET", HostEdgesTest::forgeCopyFromSheet);
        test("28: forge 2: they stand in the row of 7", HostEdgesTest::forgeCopyToRow);
        test("28: forge 2: the sum of the row", HostEdgesTest::forgeCopySum);
        test("28: forge 3: laid into a row", HostEdgesTest::forgeLaid);
        test("28: forge 4: 1000 divided by n", HostEdgesTest::forgeDivided);
        test("28: forge 5: a failure", HostEdgesTest::forgeFailure);
        test("28: forge 6: JOB n modulo 12 (also for n below 0)", HostEdgesTest::forgeJobs);
        test("28: forge 6: a UNIT or what is under it", HostEdgesTest::forgeUnits);
        finish();
    }

    private static void actOfNoJob() {
        FellersOrder x = alike(3);
        x.act(0, 3, 1);
        for (int job : new int[] {-1, 3, 12, LOW, HIGH}) {
            for (int act = 0; act <= 3; act++) {
                refused(x, "act(" + job + ", " + act + ", 1)", x.act(job, act, 1), 1);
            }
        }
        traceIs(x, 13, 11, 10, 12);
        done(x, "act(2, 0, 1)", x.act(2, 0, 1), 3);
    }

    private static void actOfNoAct() {
        FellersOrder x = alike(1);
        x.act(0, 3, 1);
        for (int act : new int[] {-1, 4, LOW, HIGH}) {
            refused(x, "act(0, " + act + ", 1)", x.act(0, act, 1), 1);
        }
        traceIs(x, 13, 11, 10, 12);
        int[] want = {3, 6, 1, 5};
        for (int act = 0; act <= 3; act++) {
            done(x, "act(0, " + act + ", 1)", x.act(0, act, 1), want[act]);
        }
    }

    private static void actAnswersMinus1() {
        FellersOrder x = yard(2, 1);
        done(x, "act(0, 0, -3)", x.act(0, 0, -3), -1);
        traceIs(x, 10);
        done(x, "act(0, 0, -2)", x.act(0, 0, -2), 0);
        done(x, "act(0, 1, -3)", x.act(0, 1, -3), -1);
        done(x, "act(0, 2, -1)", x.act(0, 2, -1), -1);
    }

    private static void actWithNoneAndAllAhead() {
        FellersOrder x = chain(12);
        for (int job = 0; job < 12; job++) {
            done(x, "act(" + job + ", 2, 100)", x.act(job, 2, 100), 100 + job);
        }
        x.free(10, 11);
        done(x, "act(11, 2, 100), freed", x.act(11, 2, 100), 100);
    }

    private static void actAtTheBounds() {
        FellersOrder x = yard(100, 100, 100, 0, 1, 100);
        done(x, "last of length 100", x.act(0, 0, 0), 100);
        done(x, "weigh of 100 and 100", x.act(0, 1, 0), 10000);
        done(x, "tell of 100 and 100", x.act(0, 3, 0), 10000);
        done(x, "weigh of no weight", x.act(1, 1, 0), 100);
        done(x, "weigh of length 1", x.act(2, 1, 0), 200);
        x.set(0, 2, 500);
        done(x, "last at moment 500", x.act(0, 0, 0), 600);
        done(x, "tell at moment 500", x.act(0, 3, 1), 60100 - 1);
        done(x, "tell of 0 at moment 500", x.act(0, 3, 0), 0);
    }

    private static void sheetOfNoSheet() {
        FellersOrder x = new FellersOrder();
        for (int sheet : new int[] {-1, 6, LOW, HIGH}) {
            for (int sort = -1; sort <= 2; sort++) {
                refused(x, "sheet(" + sheet + ", " + sort + ", 1)", x.sheet(sheet, sort, 1), 1);
            }
        }
        done(x, "sheet(0, 0, 1)", x.sheet(0, 0, 1), 1);
        done(x, "sheet(5, 0, 1)", x.sheet(5, 0, 1), 1);
    }

    private static void sheetSorts() {
        FellersOrder x = new FellersOrder();
        x.sheet(0, 1, 5);
        for (int sort : new int[] {-2, 3, LOW, HIGH}) {
            refused(x, "sheet(0, " + sort + ", 1)", x.sheet(0, sort, 1), 1);
        }
        done(x, "forge(0, 0, 1), as it was", x.forge(0, 0, 1), 5);
        for (int sort = 0; sort <= 2; sort++) {
            done(x, "sheet(0, " + sort + ", 7)", x.sheet(0, sort, 7), 1);
            for (int taken = 0; taken <= 2; taken++) {
                int got = x.forge(0, 0, taken);
                due("forge(0, 0, " + taken + ") of sort " + sort, got, taken == sort ? 7 : -1);
            }
        }
    }

    private static void sheetSizes() {
        FellersOrder x = new FellersOrder();
        for (int sort = 0; sort <= 2; sort++) {
            for (int n : new int[] {0, 1, 19, 20}) {
                done(x, "sheet(4, " + sort + ", " + n + ")", x.sheet(4, sort, n), 1);
                done(x, "forge(4, 0, " + sort + ")", x.forge(4, 0, sort), n);
            }
            for (int n : new int[] {-1, 21, LOW, HIGH}) {
                refused(x, "sheet(4, " + sort + ", " + n + ")", x.sheet(4, sort, n), 1);
                done(x, "forge(4, 0, " + sort + "), as it was", x.forge(4, 0, sort), 20);
            }
        }
    }

    private static void sheetAllZero() {
        FellersOrder x = new FellersOrder();
        for (int sort = 0; sort <= 2; sort++) {
            x.sheet(0, sort, 20);
            for (int i = 0; i < 20; i++) {
                x.cell(0, i, 50);
            }
            x.sheet(0, sort, 20);
            for (int i = 0; i < 19; i++) {
                refused(x, "fromSheet(0, " + sort + ", " + i + ")", x.fromSheet(0, sort, i), 3);
            }
            x.cell(0, 18, 1);
            done(x, "fromSheet(0, " + sort + ", 18)", x.fromSheet(0, sort, 18), 0);
            due("told(0, 1), the last number", x.told(0, 1), 0);
            x.undo();
        }
        x.sheet(0, 1, 3);
        writeCells(x, 0, 1, 2, 3);
        x.sheet(0, 1, 2);
        x.sheet(0, 1, 3);
        due("forge(0, 2, 2), made smaller and greater", x.forge(0, 2, 2), 0);
    }

    private static void sheetMissing() {
        FellersOrder x = new FellersOrder();
        for (int sort = 0; sort <= 2; sort++) {
            x.sheet(2, sort, 3);
            done(x, "sheet(2, -1, 3)", x.sheet(2, -1, 3), 1);
            refused(x, "cell(2, 0, 1)", x.cell(2, 0, 1), 10);
            refused(x, "forge(2, 0, " + sort + ")", x.forge(2, 0, sort), 10);
            refused(x, "fromSheet(2, " + sort + ", 0)", x.fromSheet(2, sort, 0), 10);
            done(x, "forge(2, 3, 0)", x.forge(2, 3, 0), 0);
        }
        done(x, "sheet(2, -1, 3) of a missing one", x.sheet(2, -1, 3), 1);
        x.sheet(1, 0, 4);
        x.sheet(2, -1, 0);
        due("forge(1, 0, 0) of another sheet", x.forge(1, 0, 0), 4);
    }

    private static void sheetMissingWithAnyN() {
        FellersOrder x = new FellersOrder();
        for (int n : new int[] {-1, 0, 20, 21, LOW, HIGH}) {
            x.sheet(3, 0, 2);
            done(x, "sheet(3, -1, " + n + ")", x.sheet(3, -1, n), 1);
            refused(x, "cell(3, 0, 1)", x.cell(3, 0, 1), 10);
        }
    }

    private static void cellOfNoSheet() {
        FellersOrder x = new FellersOrder();
        x.sheet(0, 0, 1);
        x.sheet(5, 0, 1);
        for (int sheet : new int[] {-1, 6, LOW, HIGH}) {
            refused(x, "cell(" + sheet + ", 0, 1)", x.cell(sheet, 0, 1), 1);
            refused(x, "cell(" + sheet + ", -1, 1)", x.cell(sheet, -1, 1), 1);
        }
        done(x, "cell(0, 0, 1)", x.cell(0, 0, 1), 1);
        done(x, "cell(5, 0, 1)", x.cell(5, 0, 1), 1);
    }

    private static void cellOfMissing() {
        FellersOrder x = new FellersOrder();
        for (int i : new int[] {-1, 0, 19, 20, LOW, HIGH}) {
            refused(x, "cell(0, " + i + ", 1)", x.cell(0, i, 1), 10);
        }
        x.sheet(0, 0, 20);
        x.sheet(0, -1, 20);
        refused(x, "cell(0, 0, 1), missing again", x.cell(0, 0, 1), 10);
    }

    private static void cellOutside() {
        FellersOrder x = new FellersOrder();
        for (int n : new int[] {0, 1, 20}) {
            x.sheet(0, n % 3, n);
            for (int i : new int[] {-1, n, n + 1, LOW, HIGH}) {
                refused(x, "cell(0, " + i + ", 1) of " + n, x.cell(0, i, 1), 12);
            }
            for (int i = 0; i < n; i++) {
                due("cell(0, " + i + ", 1) of " + n, x.cell(0, i, 1), 1);
            }
        }
    }

    private static void cellCut() {
        FellersOrder x = new FellersOrder();
        for (int sort = 0; sort <= 2; sort++) {
            x.sheet(sort, sort, 2);
            x.cell(sort, 0, 1);
        }
        // The number is told as a weight: 5 with a bit above the lowest 16, then with all of them.
        for (int v : new int[] {65536 + 5, LOW + 5, -65536 + 5}) {
            for (int sort = 0; sort <= 2; sort++) {
                done(x, "cell(" + sort + ", 1, " + v + ")", x.cell(sort, 1, v), 1);
            }
            done(x, "fromSheet(0, 0, 0), cut", x.fromSheet(0, 0, 0), 0);
            due("told(0, 1)", x.told(0, 1), 5);
            x.undo();
            refused(x, "fromSheet(1, 1, 0), not cut", x.fromSheet(1, 1, 0), 3);
            refused(x, "fromSheet(2, 2, 0), not cut", x.fromSheet(2, 2, 0), 3);
        }
        // With sign: -1 and not 65535 is no weight, and neither is one.
        for (int v : new int[] {-1, 65535, 32768, 65536 - 100}) {
            x.cell(0, 1, v);
            refused(x, "fromSheet(0, 0, 0) of " + v, x.fromSheet(0, 0, 0), 3);
        }
    }

    private static void cellAlone() {
        FellersOrder x = new FellersOrder();
        for (int sheet = 0; sheet <= 5; sheet++) {
            x.sheet(sheet, 1, 5);
            writeCells(x, sheet, 1, 2, 3, 4, 5);
        }
        done(x, "cell(3, 2, 50)", x.cell(3, 2, 50), 1);
        for (int sheet = 0; sheet <= 5; sheet++) {
            int third = sheet == 3 ? 50 : 3;
            due("forge(" + sheet + ", 2, 1)", x.forge(sheet, 2, 1), 2);
            due("forge(" + sheet + ", 2, 2)", x.forge(sheet, 2, 2), 2 + third);
            due("forge(" + sheet + ", 2, 3)", x.forge(sheet, 2, 3), 2 + third + 4);
        }
        done(x, "fromSheet(3, 1, 0)", x.fromSheet(3, 1, 0), 0);
        due("told(0, 0)", x.told(0, 0), 1);
        done(x, "fromSheet(3, 1, 3)", x.fromSheet(3, 1, 3), 1);
        due("told(1, 1)", x.told(1, 1), 5);
    }

    private static FellersOrder withSheets(int jobs) {
        FellersOrder x = alike(jobs);
        for (int sheet = 0; sheet <= 2; sheet++) {
            x.sheet(sheet, sheet, 4);
            writeCells(x, sheet, 0, 1, 100, 0);
        }
        return x;
    }

    private static void fromSheetOfNone() {
        FellersOrder x = withSheets(0);
        for (int bad : new int[] {-1, 6, LOW, HIGH}) {
            refused(x, "fromSheet(" + bad + ", 0, 1)", x.fromSheet(bad, 0, 1), 1);
        }
        for (int bad : new int[] {-1, 3, LOW, HIGH}) {
            refused(x, "fromSheet(0, " + bad + ", 1)", x.fromSheet(0, bad, 1), 1);
            refused(x, "fromSheet(3, " + bad + ", 1)", x.fromSheet(3, bad, 1), 1);
        }
        due("count(0)", x.count(0), 0);
        for (int sort = 0; sort <= 2; sort++) {
            done(x, "fromSheet(" + sort + ", " + sort + ", 1)", x.fromSheet(sort, sort, 1), sort);
            due("told(" + sort + ", 0)", x.told(sort, 0), 1);
            due("told(" + sort + ", 1)", x.told(sort, 1), 100);
        }
    }

    private static void fromSheetWithoutRoom() {
        FellersOrder x = withSheets(11);
        done(x, "the 12th job", x.fromSheet(0, 0, 2), 11);
        due("told(11, 0)", x.told(11, 0), 100);
        due("told(11, 1)", x.told(11, 1), 0);
        refused(x, "a 13th job", x.fromSheet(0, 0, 2), 2);
        due("count(0)", x.count(0), 12);
        x.undo();
        done(x, "the 12th job again", x.fromSheet(1, 1, 1), 11);
        refused(x, "a 13th job by job", x.job(1, 1), 2);
    }

    private static void fromSheetOfMissing() {
        FellersOrder x = withSheets(0);
        for (int sort = 0; sort <= 2; sort++) {
            for (int i : new int[] {-1, 0, 20, LOW, HIGH}) {
                refused(x, "fromSheet(5, " + sort + ", " + i + ")", x.fromSheet(5, sort, i), 10);
            }
        }
    }

    private static void fromSheetOfAnotherSort() {
        FellersOrder x = withSheets(0);
        for (int sheet = 0; sheet <= 2; sheet++) {
            for (int sort = 0; sort <= 2; sort++) {
                for (int i : new int[] {-1, 0, 1, 4}) {
                    if (sort != sheet) {
                        refused(x, "fromSheet(" + sheet + ", " + sort + ", " + i + ")", x.fromSheet(sheet, sort, i), 11);
                    }
                }
            }
        }
    }

    private static void fromSheetOutside() {
        FellersOrder x = withSheets(0);
        for (int sort = 0; sort <= 2; sort++) {
            for (int i : new int[] {-1, 3, 4, LOW, HIGH}) {
                refused(x, "fromSheet(" + sort + ", " + sort + ", " + i + ")", x.fromSheet(sort, sort, i), 12);
            }
            done(x, "fromSheet(" + sort + ", " + sort + ", 2), the last two", x.fromSheet(sort, sort, 2), sort);
        }
        for (int n = 0; n <= 1; n++) {
            x.sheet(3, 0, n);
            for (int i = -1; i <= 1; i++) {
                refused(x, "fromSheet(3, 0, " + i + ") of " + n, x.fromSheet(3, 0, i), 12);
            }
        }
        x.sheet(3, 0, 2);
        writeCells(x, 3, 7, 8);
        done(x, "fromSheet(3, 0, 0) of 2", x.fromSheet(3, 0, 0), 3);
        x.sheet(3, 0, 20);
        x.cell(3, 18, 9);
        done(x, "fromSheet(3, 0, 18) of 20", x.fromSheet(3, 0, 18), 4);
        refused(x, "fromSheet(3, 0, 19) of 20", x.fromSheet(3, 0, 19), 12);
    }

    private static void fromSheetOfNoJob() {
        for (int sort = 0; sort <= 2; sort++) {
            FellersOrder x = new FellersOrder();
            x.sheet(0, sort, 2);
            int[][] no = {{0, 0}, {101, 0}, {-1, 0}, {1, -1}, {1, 101}, {101, 101}, {-32768, 0}, {1, 32767}};
            for (int[] pair : no) {
                writeCells(x, 0, pair);
                refused(x, "fromSheet of " + pair[0] + ", " + pair[1], x.fromSheet(0, sort, 0), 3);
            }
            due("count(0)", x.count(0), 0);
            due("count(6)", x.count(6), 0);
            int[][] bounds = {{1, 0}, {100, 0}, {1, 100}, {100, 100}};
            for (int i = 0; i < bounds.length; i++) {
                writeCells(x, 0, bounds[i]);
                done(x, "fromSheet of " + bounds[i][0] + ", " + bounds[i][1], x.fromSheet(0, sort, 0), i);
                due("told(" + i + ", 0)", x.told(i, 0), bounds[i][0]);
                due("told(" + i + ", 1)", x.told(i, 1), bounds[i][1]);
                due("told(" + i + ", 2)", x.told(i, 2), 0);
            }
        }
    }

    private static void fromSheetInThisOrder() {
        FellersOrder full = withSheets(12);
        refused(full, "1 before 2, 10, 12", full.fromSheet(5, 3, -1), 1);
        refused(full, "1 before 2, 11", full.fromSheet(0, -1, 0), 1);
        refused(full, "2 before 10, 12", full.fromSheet(5, 0, -1), 2);
        refused(full, "2 before 11, 12", full.fromSheet(0, 1, 4), 2);
        refused(full, "2 before 12", full.fromSheet(0, 0, 4), 2);
        refused(full, "2 before 3", full.fromSheet(0, 0, 0), 2);
        FellersOrder x = withSheets(0);
        refused(x, "10 before 12", x.fromSheet(5, 0, 4), 10);
        refused(x, "11 before 12", x.fromSheet(0, 1, 4), 11);
        refused(x, "11 before 3", x.fromSheet(0, 1, 0), 11);
        refused(x, "12 before 3", x.fromSheet(0, 0, 3), 12);
        refused(x, "3 alone", x.fromSheet(0, 0, 0), 3);
    }

    private static void forgeOfAnother() {
        FellersOrder x = withSheets(1);
        for (int what : new int[] {-1, 7, LOW, HIGH}) {
            for (int sheet : new int[] {0, 1, 5}) {
                refused(x, "forge(" + sheet + ", " + what + ", 1)", x.forge(sheet, what, 1), 1);
            }
        }
        done(x, "forge(0, 0, 0)", x.forge(0, 0, 0), 4);
        refused(x, "forge(0, 6, 0)", x.forge(0, 6, 0), 11);
    }

    private static void forgeOfNoSheet() {
        FellersOrder x = withSheets(1);
        for (int what = 0; what <= 6; what++) {
            for (int sheet : new int[] {-1, 6, LOW, HIGH}) {
                refused(x, "forge(" + sheet + ", " + what + ", 1)", x.forge(sheet, what, 1), 1);
            }
        }
        done(x, "forge(5, 1, 1)", x.forge(5, 1, 1), 1);
        done(x, "forge(0, 1, 1)", x.forge(0, 1, 1), 1);
    }

    private static void forgeOutside() {
        FellersOrder x = withSheets(1);
        for (int what = 0; what <= 6; what++) {
            for (int n : new int[] {-101, 101, LOW, HIGH}) {
                refused(x, "forge(0, " + what + ", " + n + ")", x.forge(0, what, n), 1);
            }
        }
        done(x, "forge(2, 0, -100)", x.forge(2, 0, -100), 4);
        done(x, "forge(1, 0, 100)", x.forge(1, 0, 100), 4);
        refused(x, "forge(0, 1, -100)", x.forge(0, 1, -100), 13);
        done(x, "forge(0, 1, 100)", x.forge(0, 1, 100), 100);
        refused(x, "forge(1, 2, -100)", x.forge(1, 2, -100), 12);
        refused(x, "forge(1, 2, 100)", x.forge(1, 2, 100), 12);
        done(x, "forge(0, 3, -100)", x.forge(0, 3, -100), 4);
        done(x, "forge(0, 3, 100)", x.forge(0, 3, 100), 4);
        done(x, "forge(0, 4, -100)", x.forge(0, 4, -100), -10);
        done(x, "forge(0, 4, 100)", x.forge(0, 4, 100), 10);
        refused(x, "forge(0, 5, -100)", x.forge(0, 5, -100), 10);
        refused(x, "forge(0, 5, 100)", x.forge(0, 5, 100), 10);
        refused(x, "forge(0, 6, -100)", x.forge(0, 6, -100), 10);
        refused(x, "forge(0, 6, 100)", x.forge(0, 6, 100), 10);
    }

    private static void forgeSorts() {
        FellersOrder x = withSheets(0);
        int[][] sortAndN = {
            {0, -99}, {0, -6}, {0, -3}, {0, 0}, {0, 3}, {0, 99}, {1, -98}, {1, -2}, {1, 1}, {1, 4}, {1, 100},
            {2, -100}, {2, -4}, {2, -1}, {2, 2}, {2, 5}, {2, 98},
        };
        for (int[] s : sortAndN) {
            for (int sheet = 0; sheet <= 2; sheet++) {
                String call = "forge(" + sheet + ", 0, " + s[1] + ")";
                int got = x.forge(sheet, 0, s[1]);
                due(call, got, sheet == s[0] ? 4 : -1);
                due("status() behind " + call, x.status(), sheet == s[0] ? 0 : 11);
            }
        }
    }

    private static void forgeHowMany() {
        FellersOrder x = new FellersOrder();
        for (int n = -3; n <= 3; n++) {
            refused(x, "forge(0, 0, " + n + ") of a missing sheet", x.forge(0, 0, n), 10);
        }
        for (int n : new int[] {0, 1, 20}) {
            x.sheet(0, 2, n);
            done(x, "forge(0, 0, 2)", x.forge(0, 0, 2), n);
            refused(x, "forge(0, 0, 0)", x.forge(0, 0, 0), 11);
        }
    }

    private static void forgeRow() {
        FellersOrder x = withSheets(0);
        for (int sheet : new int[] {0, 1, 2, 5}) {
            refused(x, "forge(" + sheet + ", 1, -1)", x.forge(sheet, 1, -1), 13);
            done(x, "forge(" + sheet + ", 1, 0)", x.forge(sheet, 1, 0), 0);
            done(x, "forge(" + sheet + ", 1, 1)", x.forge(sheet, 1, 1), 1);
            done(x, "forge(" + sheet + ", 1, 99)", x.forge(sheet, 1, 99), 99);
        }
    }

    private static void forgeCopyOfSort() {
        FellersOrder x = withSheets(0);
        for (int n = -1; n <= 4; n++) {
            refused(x, "forge(0, 2, " + n + ")", x.forge(0, 2, n), 11);
            refused(x, "forge(2, 2, " + n + ")", x.forge(2, 2, n), 11);
            refused(x, "forge(5, 2, " + n + ")", x.forge(5, 2, n), 10);
        }
        done(x, "forge(1, 2, 1)", x.forge(1, 2, 1), 1);
    }

    private static void forgeCopyBelow0() {
        FellersOrder x = new FellersOrder();
        x.sheet(0, 1, 20);
        writeCells(x, 0, 1, 2, 3, 4, 5, 6, 7, 8);
        refused(x, "forge(0, 2, -1)", x.forge(0, 2, -1), 12);
        done(x, "forge(0, 2, 0)", x.forge(0, 2, 0), 0);
        done(x, "forge(0, 2, 1)", x.forge(0, 2, 1), 2);
    }

    private static void forgeCopyFromSheet() {
        FellersOrder x = new FellersOrder();
        for (int size = 0; size <= 5; size++) {
            x.sheet(0, 1, size);
            for (int i = 0; i < size; i++) {
                x.cell(0, i, 1);
            }
            for (int n = 0; n <= 3; n++) {
                String call = "forge(0, 2, " + n + ") of " + size;
                if (n <= size - 1) {
                    done(x, call, x.forge(0, 2, n), n);
                } else {
                    refused(x, call, x.forge(0, 2, n), 12);
                }
            }
        }
    }

    private static void forgeCopyToRow() {
        FellersOrder x = new FellersOrder();
        x.sheet(0, 1, 20);
        for (int i = 0; i < 20; i++) {
            x.cell(0, i, 1);
        }
        done(x, "forge(0, 2, 3), 3 from place 3 on", x.forge(0, 2, 3), 3);
        for (int n : new int[] {4, 5, 6, 7, 8, 19, 20, 100}) {
            refused(x, "forge(0, 2, " + n + ")", x.forge(0, 2, n), 12);
        }
    }

    private static void forgeCopySum() {
        FellersOrder x = new FellersOrder();
        x.sheet(0, 1, 5);
        writeCells(x, 0, 1000, HIGH, 1, HIGH, 1000);
        done(x, "forge(0, 2, 0)", x.forge(0, 2, 0), 0);
        done(x, "forge(0, 2, 1)", x.forge(0, 2, 1), HIGH);
        done(x, "forge(0, 2, 2), wrapping", x.forge(0, 2, 2), LOW);
        done(x, "forge(0, 2, 3), wrapping", x.forge(0, 2, 3), -1);
        writeCells(x, 0, 1000, LOW, -1);
        done(x, "forge(0, 2, 2), wrapping below", x.forge(0, 2, 2), HIGH);
        // Copied, not taken away, and to a row that is new each time.
        done(x, "forge(0, 2, 1) again", x.forge(0, 2, 1), LOW);
    }

    private static void forgeLaid() {
        FellersOrder x = withSheets(0);
        done(x, "forge(0, 3, 0)", x.forge(0, 3, 0), 4);
        refused(x, "forge(1, 3, 0)", x.forge(1, 3, 0), 14);
        refused(x, "forge(2, 3, 0)", x.forge(2, 3, 0), 14);
        done(x, "forge(3, 3, 0), missing", x.forge(3, 3, 0), 0);
        for (int n : new int[] {0, 1, 20}) {
            x.sheet(3, 0, n);
            done(x, "forge(3, 3, 0) of " + n, x.forge(3, 3, 0), n);
        }
        x.sheet(3, 1, 0);
        refused(x, "forge(3, 3, 0) of no ints", x.forge(3, 3, 0), 14);
        x.sheet(3, -1, 0);
        done(x, "forge(3, 3, 0), missing again", x.forge(3, 3, 0), 0);
    }

    private static void forgeDivided() {
        FellersOrder x = new FellersOrder();
        refused(x, "forge(0, 4, 0)", x.forge(0, 4, 0), 15);
        int[][] nAndAnswer = {{1, 1000}, {-1, -1000}, {3, 333}, {-3, -333}, {7, 142}, {-7, -142}, {99, 10}, {-99, -10}};
        for (int[] a : nAndAnswer) {
            done(x, "forge(0, 4, " + a[0] + ")", x.forge(0, 4, a[0]), a[1]);
        }
    }

    private static void forgeFailure() {
        FellersOrder x = new FellersOrder();
        for (int n = -100; n <= 98; n += 18) {
            refused(x, "forge(0, 5, " + n + ")", x.forge(0, 5, n), 10);
            done(x, "forge(0, 5, " + (n + 1) + ")", x.forge(0, 5, n + 1), 1);
        }
        refused(x, "forge(0, 5, 0)", x.forge(0, 5, 0), 10);
        done(x, "forge(0, 5, -1)", x.forge(0, 5, -1), 1);
    }

    private static void forgeJobs() {
        FellersOrder x = new FellersOrder();
        for (int n = -12; n <= 12; n++) {
            refused(x, "forge(0, 6, " + n + ") of no jobs", x.forge(0, 6, n), 10);
        }
        for (int job = 0; job < 11; job++) {
            x.job(2, 1);
        }
        refused(x, "forge(0, 6, 11) of eleven", x.forge(0, 6, 11), 10);
        refused(x, "forge(0, 6, -1) of eleven", x.forge(0, 6, -1), 10);
        refused(x, "forge(0, 6, 10)", x.forge(0, 6, 10), 11);
        refused(x, "forge(0, 6, -2)", x.forge(0, 6, -2), 11);
        x.job(1, 1);
        for (int n : new int[] {-97, -85, -13, -1, 11, 23, 95}) {
            done(x, "forge(0, 6, " + n + "), the 12th", x.forge(0, 6, n), 1);
            refused(x, "forge(0, 6, " + (n + 1) + "), the first", x.forge(0, 6, n + 1), 11);
        }
    }

    private static void forgeUnits() {
        FellersOrder x = yard(1, 1, 2, 1, 2, 0);
        done(x, "a FIRST", x.forge(5, 6, 0), 1);
        refused(x, "a JOB", x.forge(5, 6, 1), 11);
        refused(x, "an IDLE", x.forge(5, 6, 2), 11);
        x.lay(1, 0);
        done(x, "a UNIT", x.forge(5, 6, 0), 1);
        x.set(0, 1, 0);
        done(x, "a UNIT of no weight", x.forge(5, 6, 0), 1);
        x.set(0, 2, 1);
        refused(x, "a LATE of length 1", x.forge(5, 6, 0), 11);
        x.undo();
        x.set(0, 0, 2);
        refused(x, "of length 2", x.forge(5, 6, 0), 11);
    }
}
