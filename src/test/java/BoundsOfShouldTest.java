/**
 * Boundary cases of BEST, GAP, TOGETHER, SLOW, FILL and TRODDEN, as promises 18 to 23 answer. Each method is one
 * sentence of the document.
 */
public final class BoundsOfShouldTest {
    private static final int BAD = DamOfTurf.BAD, NO = DamOfTurf.NO, NONE = DamOfTurf.NONE;

    public static void main(String[] args) {
        bestOf1To5Inches();
        bestOfAStuff();
        bestBehind1To60Minutes();
        bestAsksForACell();
        bestTo40Inches();
        bestLaysAll();
        bestOfSeveralLaysMostAtTheFirst();
        bestOfEightCells();
        bestIsTheMostWater();
        gapOf1To60Minutes();
        gapAsksForTwo();
        gapOf0To40Inches();
        gapAloneOrNowhere();
        gapOfSeveralIsTheLowestCell();
        gapIsSlate();
        togetherAsksForAJob();
        togetherWithoutJobs();
        togetherWithoutSomebody();
        togetherIsCutUp();
        togetherOneBehindTheOther();
        togetherOfSeveralIsTheFirst();
        togetherAtTheGreatest();
        togetherWhateverTheCell();
        slowOfACell();
        slowBy0To999();
        slowInEachOf1To9();
        slowDigsAheadOfStep1();
        slowIn60Minutes();
        slowTillTheLevelIs0();
        slowWhileHigherThan0();
        fillOf1To40();
        fillIn200Minutes();
        fillFromNoWater();
        troddenBy1To9();
        troddenTo40();
        troddenLaterOrSooner();
        troddenIn200Minutes();
        troddenNone();
        allGoBeyond999();
        Check.end();
    }

    /** "BEST of m inches (1 to 5)" */
    private static void bestOf1To5Inches() {
        Check.range("inches", 1, 5, m -> Check.dam("c9,2;").best(m, 0, 1, 0));
        DamOfTurf x = Check.dam("c9,2;c40,2;b50,50;a1,0;f0,60;");
        for (int m = 1; m <= 5; m++) {
            Check.same("water by " + m, x.best(m, 2, 1, -1), 9 + m);
            Check.same("inches by " + m, x.best(m, 2, 1, 0), m);
        }
    }

    private static void bestOfAStuff() {
        Check.range("stuff", 0, 3, stuff -> Check.dam("c9,2;").best(1, stuff, 1, 0));
        // Of ten inches MUD is worn to six ahead of minute 3, TURF to nine; by nine units TURF seeps one, STONE three.
        int[] worn = {6, 9, 10, 10};
        int[] seeped = {9, 8, 9, 6};
        for (int stuff = 0; stuff <= 3; stuff++) {
            DamOfTurf x = Check.dam("c9,2;c40,2;b50,50;a1,0;f0,60;");
            Check.same("water by STUFF " + stuff, x.best(1, stuff, 3, -1), worn[stuff]);
            DamOfTurf y = Check.dam("c9,2;b50,50;a1,0;f0,9;");
            Check.same("nine units by STUFF " + stuff, y.best(1, stuff, 1, -1), seeped[stuff]);
        }
        // Where none of it is laid the STUFF stays.
        DamOfTurf z = Check.dam("c9,2;c9,2;b50,50;a1,0;f0,60;");
        for (int c = -1; c <= 1; c++) {
            Check.same("MUD beside SLATE, best(1, 0, 60, " + c + ")", z.best(1, 0, 60, c), c == -1 ? 9 : c == 0 ? 1 : 0);
        }
    }

    /** "behind n minutes (1 to 60)" */
    private static void bestBehind1To60Minutes() {
        Check.range("minutes", 1, 60, n -> Check.dam("c9,2;").best(1, 0, n, -1));
        String text = "c30,2;b50,50;a20,5;f60,7;";
        Check.same("59 minutes", Check.dam(text).best(1, 2, 59, -1), 0);
        Check.same("60 minutes", Check.dam(text).best(1, 2, 60, -1), 7);
        Check.same("a minute", Check.dam("c30,2;b50,50;a20,5;f0,7;").best(1, 2, 1, -1), 7);
        Check.same("two minutes", Check.dam("c30,2;b50,50;a20,5;f0,7;").best(1, 2, 2, -1), 14);
        DamOfTurf x = Check.dam(text);
        x.pass(59);
        Check.same("from now on", x.best(1, 2, 1, -1), 7);
    }

    /** "the water (c = -1), inches at a CELL." */
    private static void bestAsksForACell() {
        for (int cells = 1; cells <= 8; cells += 7) {
            String text = "c9,2;".repeat(cells);
            Check.range("cell asked for, of " + cells, -1, cells - 1, c -> Check.dam(text).best(1, 0, 1, c));
        }
    }

    /** "(40 inches there at most)", "none (they can not be laid)" */
    private static void bestTo40Inches() {
        for (int m = 1; m <= 5; m++) {
            DamOfTurf x = Check.dam("c" + (40 - m) + ",2;b50,50;f0,1;");
            Check.same(m + " to 40", x.best(m, 2, 1, 0), m);
            Check.same(m + " to 40, the water", x.best(m, 2, 1, -1), 1);
            DamOfTurf y = Check.dam("c" + (41 - m) + ",2;b50,50;f0,1;");
            Check.same(m + " to 41", y.best(m, 2, 1, 0), NONE);
            Check.same(m + " to 41, the water", y.best(m, 2, 1, -1), NONE);
            // As much as is too much for one is laid at the other.
            DamOfTurf z = Check.dam("c" + (41 - m) + ",2;c39,2;b50,50;f0,1;");
            Check.same("at the first", z.best(m, 2, 1, 0), m - 1);
            Check.same("at the second", z.best(m, 2, 1, 1), 1);
            DamOfTurf w = Check.dam("c" + (41 - m) + ",2;c40,2;b50,50;f0,1;");
            Check.same("at neither", w.best(m, 2, 1, 1), NONE);
        }
        DamOfTurf all = Check.dam("c40,2;".repeat(3) + "c39,2;".repeat(5) + "b50,50;f0,1;");
        for (int c = 0; c < 8; c++) {
            Check.same("an inch at each of five", all.best(5, 2, 1, c), c < 3 ? 0 : 1);
        }
        DamOfTurf less = Check.dam("c40,2;".repeat(4) + "c39,2;".repeat(4) + "b50,50;f0,1;");
        Check.same("room for four", less.best(4, 2, 1, 7), 1);
        Check.same("no room for five", less.best(5, 2, 1, 7), NONE);
        less.dig(0, 1);
        Check.same("as things stand now", less.best(5, 2, 1, 0), 1);
    }

    /** "each laid": less is no way, though there were more water by it. */
    private static void bestLaysAll() {
        DamOfTurf x = Check.dam("c9,2;b50,50;a1,0;f0,60;");
        Check.same("MUD on SLATE is worn", x.best(1, 0, 60, -1), 0);
        Check.same("MUD of five", x.best(5, 0, 60, -1), 0);
    }

    /** "of several ways the one that lays most at CELL 0, then at 1, .." */
    private static void bestOfSeveralLaysMostAtTheFirst() {
        DamOfTurf x = Check.dam("c20,2;c20,2;c20,2;b9,9;a1,0;f0,60;");
        for (int m = 1; m <= 5; m++) {
            Check.same("all at 0", x.best(m, 2, 60, 0), m);
            Check.same("none at 1", x.best(m, 2, 60, 1), 0);
        }
        DamOfTurf y = Check.dam("c38,2;c38,2;c38,2;b9,9;a1,0;f0,60;");
        Check.same("two at 0", y.best(5, 2, 60, 0), 2);
        Check.same("two at 1", y.best(5, 2, 60, 1), 2);
        Check.same("one at 2", y.best(5, 2, 60, 2), 1);
        // An inch is needed at cell 2; the other may lie anywhere.
        DamOfTurf z = Check.dam("c9,2;c9,2;c8,2;b9,50;a1,0;f0,60;");
        Check.same("one at 0", z.best(2, 2, 60, 0), 1);
        Check.same("none at 1", z.best(2, 2, 60, 1), 0);
        Check.same("one at 2", z.best(2, 2, 60, 2), 1);
    }

    private static void bestOfEightCells() {
        DamOfTurf x = Check.dam("c9,2;".repeat(3) + "c8,2;".repeat(5) + "b50,50;a1,0;f0,60;");
        Check.same("the water", x.best(5, 2, 60, -1), 9);
        for (int c = 0; c < 8; c++) {
            Check.same("at cell " + c, x.best(5, 2, 60, c), c < 3 ? 0 : 1);
            Check.same("of four at cell " + c, x.best(4, 2, 60, c), c == 0 ? 4 : 0);
        }
        Check.same("of four, the water", x.best(4, 2, 60, -1), 8);
        // The last way of all: five at the last cell.
        DamOfTurf y = Check.dam("c9,2;".repeat(7) + "c4,2;b50,50;a1,0;f0,60;");
        Check.same("at the last", y.best(5, 2, 60, 7), 5);
        Check.same("the water", y.best(5, 2, 60, -1), 9);
    }

    private static void bestIsTheMostWater() {
        DamOfTurf x = Check.dam("c9,2;c8,2;c7,2;b50,50;a1,0;f0,60;");
        int[][] due = {{8, 0, 0, 1}, {8, 1, 0, 1}, {9, 0, 1, 2}, {9, 1, 1, 2}, {9, 2, 1, 2}};
        for (int m = 1; m <= 5; m++) {
            for (int c = -1; c < 3; c++) {
                Check.same("best(" + m + ", 2, 60, " + c + ")", x.best(m, 2, 60, c), due[m - 1][c + 1]);
            }
        }
        Check.same("no more than comes", Check.dam("c9,2;b50,50;a1,0;").best(5, 2, 60, -1), 0);
    }

    /** "in the next n minutes (1 to 60)" */
    private static void gapOf1To60Minutes() {
        Check.range("minutes", 1, 60, n -> Check.dam("c9,2;").gap(n, 0));
        // Cell 1 takes 120 units, two come a minute: 120 in minute 60, over in minute 61.
        DamOfTurf x = Check.dam("c10,2;c12,2;b50,50;a10,0;f0,2;");
        Check.same("60 minutes", x.gap(60, 0), 40);
        x.pass(1);
        Check.same("60 minutes from minute 1 on", x.gap(60, 0), 12);
        Check.same("59 minutes from minute 1 on", x.gap(59, 0), 40);
        DamOfTurf y = Check.dam("c10,2;c12,2;b50,50;a10,0;f0,60;r1,1,30;r1,1,30;r1,1,1;");
        Check.same("a minute: a unit above 12 inches", y.gap(1, 0), 12);
        DamOfTurf z = Check.dam("c10,2;c12,2;b50,50;a10,0;f0,60;r1,1,30;r1,1,30;");
        Check.same("a minute: as much as 12 inches take", z.gap(1, 0), 40);
        Check.same("two minutes", z.gap(2, 0), 12);
    }

    /** "how high (what = 0), the CELL (1). NONE; BAD." */
    private static void gapAsksForTwo() {
        Check.range("what of a gap", 0, 1, n -> Check.dam("c9,2;").gap(1, n));
        Check.same("both are none", Check.dam("c9,2;").gap(61, 2), BAD);
    }

    /** "SLATE of h inches (0 to 40)", "the greatest h" */
    private static void gapOf0To40Inches() {
        Check.same("no water: 40", Check.dam("c0,2;").gap(60, 0), 40);
        Check.same("no water: cell 0", Check.dam("c0,2;c0,2;").gap(60, 1), 0);
        Check.same("banks of 50, alone: 40", Check.dam("c0,0;b50,50;a1,0;f0,60;").gap(60, 0), 40);
        Check.same("banks of 40: as high as they", Check.dam("c0,0;b40,40;a1,0;f0,60;").gap(60, 0), 40);
        Check.same("banks of 39", Check.dam("c0,0;b39,50;a1,0;f0,60;").gap(60, 0), 39);
        DamOfTurf x = Check.dam("c9,2;b0,0;a1,0;f0,60;");
        Check.same("banks of 0: 0", x.gap(60, 0), 0);
        Check.same("banks of 0: cell 0", x.gap(60, 1), 0);
        DamOfTurf y = Check.dam("c0,2;c9,2;b0,9;a1,0;f0,60;");
        Check.same("a cell of 0 at the left: 0", y.gap(60, 0), 0);
        Check.same("a cell of 0 at the left: it", y.gap(60, 1), 0);
        DamOfTurf z = Check.dam("c9,2;c0,2;b9,9;a1,0;f0,60;");
        Check.same("a cell of 0 at the right: as high as the other", z.gap(60, 0), 8);
        Check.same("a cell of 0 at the right: it", z.gap(60, 1), 1);
    }

    /** "water GOES OVER at that CELL alone, or nowhere" */
    private static void gapAloneOrNowhere() {
        String text = "c10,2;c12,2;b50,50;a1,0;f0,";
        Check.same("nowhere", Check.dam(text + "12;f2,0;").gap(60, 0), 40);
        Check.same("a unit", Check.dam(text + "13;f2,0;").gap(60, 0), 12);
        Check.same("a unit at a bank", Check.dam("c10,2;b12,50;a1,0;f0,13;f2,0;").gap(60, 0), 12);
        Check.same("nowhere at a bank", Check.dam("c10,2;b12,50;a1,0;f0,12;f2,0;").gap(60, 0), 40);
        // MUD that is left alone is not worn: by a gap above it, it would be.
        DamOfTurf x = Check.dam("c10,0;c12,2;b50,50;a1,0;f0,60;");
        Check.same("instead of MUD", x.gap(60, 0) * 10 + x.gap(60, 1), 120);
        DamOfTurf y = Check.dam("c12,2;c10,0;b50,50;a1,0;f0,60;");
        Check.same("instead of MUD at the right", y.gap(60, 0) * 10 + y.gap(60, 1), 111);
        // Water that is higher than the others goes over at the gap at once.
        DamOfTurf z = Check.dam("c40,2;c40,2;b50,50;a1,0;f0,30;f2,0;");
        z.pass(1);
        z.dig(0, 9);
        z.dig(1, 9);
        z.dig(0, 9);
        Check.same("the others are of 31 inches", z.gap(60, 0), 40);
        z.dig(1, 9);
        Check.same("the other is of 22 inches", z.gap(60, 0), 22);
        Check.same("cell 0", z.gap(60, 1), 0);
    }

    /** "of several CELLS the lowest" */
    private static void gapOfSeveralIsTheLowestCell() {
        DamOfTurf x = Check.dam("c9,2;c9,2;c9,2;b50,50;a1,0;f0,60;");
        Check.same("how high", x.gap(60, 0), 9);
        Check.same("the CELL", x.gap(60, 1), 0);
        DamOfTurf y = Check.dam("c12,2;c9,2;c9,2;b50,50;a1,0;f0,60;");
        Check.same("cell 0 above the others, how high", y.gap(60, 0), 9);
        Check.same("cell 0 above the others", y.gap(60, 1), 0);
        DamOfTurf z = Check.dam("c9,2;".repeat(7) + "c3,2;b50,50;a1,0;f0,60;");
        Check.same("the eighth, how high", z.gap(60, 0), 8);
        Check.same("the eighth", z.gap(60, 1), 7);
    }

    /** "a CELL is SLATE of h inches .. instead": it neither seeps nor wears then, and its own height does not matter. */
    private static void gapIsSlate() {
        DamOfTurf x = Check.dam("c9,3;b9,50;a1,0;f0,3;");
        Check.same("nothing goes over by STONE", x.over(0), NONE);
        Check.same("a gap of SLATE in it", x.gap(60, 0), 9);
        DamOfTurf y = Check.dam("c9,2;c9,3;b50,50;a1,0;f0,3;");
        // By the STONE that is left as much seeps as comes.
        Check.same("beside STONE", y.gap(60, 0), 40);
        Check.same("it is STONE that stays", y.gap(60, 1), 0);
        Check.same("no gap is laid", y.cell(0, 0) * 10 + y.cell(0, 1), 92);
    }

    /** "minutes (j = -1), who does a JOB. NONE; BAD." */
    private static void togetherAsksForAJob() {
        for (int jobs = 0; jobs <= 5; jobs++) {
            DamOfTurf x = Check.dam("c9,2;p1,1,1,1;" + "j0,0,1;".repeat(jobs));
            Check.range("job asked for, of " + jobs, -1, jobs - 1, x::together);
            DamOfTurf none = Check.dam("c9,2;" + "j0,0,1;".repeat(jobs));
            Check.range("job asked for, none to do it, of " + jobs, -1, jobs - 1, none::together);
        }
    }

    /** "(No JOBS: 0.)" */
    private static void togetherWithoutJobs() {
        Check.same("nobody", Check.dam("c9,2;").together(-1), 0);
        Check.same("a child", Check.dam("c9,2;p1,1,1,1;").together(-1), 0);
        Check.same("four who lay nothing", Check.dam("c9,2;" + "p0,0,0,0;".repeat(4)).together(-1), 0);
    }

    /** "by one CHILD alone who lays that STUFF", "none" */
    private static void togetherWithoutSomebody() {
        for (int stuff = 0; stuff <= 3; stuff++) {
            StringBuilder lays = new StringBuilder("p9,9,9,9;");
            lays.setCharAt(1 + 2 * stuff, '0');
            String job = "j0," + stuff + ",1;";
            DamOfTurf none = Check.dam("c9,2;" + lays + "j0," + (3 - stuff) + ",1;" + job);
            Check.same("nobody lays STUFF " + stuff, none.together(-1), NONE);
            Check.same("nor does he the other JOB", none.together(0), NONE);
            DamOfTurf one = Check.dam("c9,2;" + lays + "p0,0,0,0;p1,1,1,1;" + job);
            Check.same("the third lays STUFF " + stuff, one.together(0), 2);
            Check.same("in a minute", one.together(-1), 1);
        }
    }

    /** "taking N inches by what he lays a minute, cut up" */
    private static void togetherIsCutUp() {
        for (int rate = 1; rate <= 9; rate++) {
            for (int inches : new int[] {1, rate, rate + 1, 2 * rate, 2 * rate + 1, 29, 30}) {
                DamOfTurf x = Check.dam("c9,2;p" + rate + ",0,0,0;j0,0," + inches + ";");
                int due = inches / rate + (inches % rate > 0 ? 1 : 0);
                Check.same(inches + " inches by " + rate, x.together(-1), due);
            }
        }
    }

    /** "each of his JOBS .. one behind the other" */
    private static void togetherOneBehindTheOther() {
        Check.same("two of a minute", Check.dam("c9,2;p9,0,0,0;j0,0,1;j0,0,1;").together(-1), 2);
        Check.same("five of a minute", Check.dam("c9,2;p9,0,0,0;" + "j0,0,1;".repeat(5)).together(-1), 5);
        Check.same("by two", Check.dam("c9,2;p9,0,0,0;p9,0,0,0;" + "j0,0,1;".repeat(5)).together(-1), 3);
        Check.same("by four", Check.dam("c9,2;" + "p9,0,0,0;".repeat(4) + "j0,0,1;".repeat(5)).together(-1), 2);
        Check.same("four by four", Check.dam("c9,2;" + "p9,0,0,0;".repeat(4) + "j0,0,1;".repeat(4)).together(-1), 1);
    }

    /** "of several the first (by who does JOB 0, the lowest, then JOB 1, ..)" */
    private static void togetherOfSeveralIsTheFirst() {
        int[] due = {0, 0, 1, 1, 2};
        DamOfTurf x = Check.dam("c9,2;" + "p1,1,1,1;".repeat(4) + "j0,0,1;".repeat(5));
        for (int j = 0; j < 5; j++) {
            Check.same("JOB " + j, x.together(j), due[j]);
        }
        // The first of all soonest ways, though another has who is quicker.
        DamOfTurf y = Check.dam("c9,2;p1,0,0,0;p9,0,0,0;j0,0,9;j0,0,30;");
        Check.same("minutes", y.together(-1), 5);
        Check.same("JOB 0", y.together(0), 1);
        Check.same("JOB 1", y.together(1), 1);
        DamOfTurf z = Check.dam("c9,2;p1,0,0,0;p9,0,0,0;j0,0,4;j0,0,30;");
        Check.same("minutes", z.together(-1), 4);
        Check.same("JOB 0 by the slow one", z.together(0), 0);
        Check.same("JOB 1", z.together(1), 1);
    }

    private static void togetherAtTheGreatest() {
        DamOfTurf x = Check.dam("c9,2;p0,0,0,1;p0,0,0,0;p0,0,0,0;p0,0,0,0;" + "j0,3,30;".repeat(5));
        Check.same("five of thirty by one", x.together(-1), 150);
        Check.same("all by him", x.together(4), 0);
        DamOfTurf y = Check.dam("c9,2;p0,0,0,0;p0,0,0,0;p0,0,0,0;p0,0,0,1;" + "j0,3,30;".repeat(5));
        Check.same("five of thirty by the last", y.together(-1), 150);
        Check.same("the first", y.together(0), 3);
        Check.same("the last", y.together(4), 3);
    }

    /** "a JOB: N inches (1 to 30) of STUFF K at CELL C": told, but nothing is laid, nor does it matter where. */
    private static void togetherWhateverTheCell() {
        for (String at : new String[] {"j0,0,30;j0,0,30;", "j1,0,30;j0,0,30;", "j1,0,30;j1,0,30;"}) {
            DamOfTurf x = Check.dam("c40,2;c11,1;p7,0,0,0;p6,0,0,0;" + at);
            Check.same("together(-1) of " + at, x.together(-1), 5);
            Check.same("together(0) of " + at, x.together(0), 0);
            Check.same("together(1) of " + at, x.together(1), 1);
            Check.same("the cells", x.cell(0, 0) * 100 + x.cell(1, 0), 4011);
            x.dig(1, 9);
            x.pass(60);
            Check.same("together(-1) behind ACTS", x.together(-1), 5);
        }
    }

    /** "m (what = 0), in which minute the LEVEL is 0 (1 ..)" of a CELL */
    private static void slowOfACell() {
        for (int cells = 1; cells <= 8; cells += 7) {
            String text = "c9,2;".repeat(cells);
            Check.range("cell dug, of " + cells, 0, cells - 1, c -> Check.dam(text).slow(c, 0, 0));
        }
        Check.range("what of slow", 0, 1, n -> Check.dam("c9,2;").slow(0, 0, n));
        Check.range("what of slow, none", 0, 1, n -> Check.dam("c0,2;f0,9;").slow(0, 0, n));
        // Each lets out an inch a minute.
        DamOfTurf x = Check.dam("c9,2;".repeat(7) + "c9,2;b50,50;a1,0;f0,9;f2,0;");
        x.pass(1);
        for (int c = 0; c < 8; c++) {
            Check.same("cell " + c, x.slow(c, 1, 1), 9);
        }
    }

    /** "no more than u UNITS (0 to 999)" */
    private static void slowBy0To999() {
        Check.range("units", 0, 999, u -> Check.dam("c0,2;f0,9;").slow(0, u, 0));
        DamOfTurf x = Check.dam("c9,2;b50,50;a7,0;f0,60;r1,1,3;f2,0;");
        x.pass(1);
        Check.same("63 units are 9 inches of 7", x.lake(0), 9);
        Check.same("7 units a minute", x.slow(0, 7, 0), 1);
        Check.same("6 units a minute", x.slow(0, 6, 0), NONE);
        Check.same("no water, no units", Check.dam("c9,2;").slow(0, 0, 0), 1);
        // 4900 units at 40 inches; 36 inches take 4050; 149 more come in each minute, the first is the worst.
        String text = "c40,2;b50,50;a20,5;f0,60;r0,99,30;r0,99,30;r0,99,";
        for (int more = 29; more <= 30; more++) {
            DamOfTurf y = Check.dam(text + more + ";");
            y.pass(60);
            y.dig(0, 4);
            Check.same("over in minute 61", y.behind(1, 2), 970 + more);
            Check.same("slow(0, 999, 0)", y.slow(0, 999, 0), more == 29 ? 2 : NONE);
            Check.same("slow(0, 998, 0)", y.slow(0, 998, 0), NONE);
        }
    }

    /** "in each m-th minute from now on (in minutes m, 2 m, ..)", "the least m (1 to 9)" */
    private static void slowInEachOf1To9() {
        // As many inches of water as 40 - 60 / m (cut) leave: an inch more goes over.
        int[] left = {0, 10, 20, 25, 28, 30, 32, 33, 34};
        for (int m = 1; m <= 9; m++) {
            for (int more = 0; more <= 1; more++) {
                DamOfTurf x = Check.dam("c40,2;b50,50;a1,0;f0," + (left[m - 1] + more) + ";f2,0;");
                x.pass(1);
                int due = m + more == 10 ? NONE : m + more;
                Check.same(left[m - 1] + " inches and " + more, x.slow(0, 0, 0), due);
            }
        }
        slowTenIsTooMany();
    }

    /** TURF of 35 inches loses 4 a minute when nothing comes: by m = 10 it would be low enough in minute 60. */
    private static void slowTenIsTooMany() {
        for (int from = 62; from <= 65; from += 3) {
            DamOfTurf x = Check.dam("c40,2;c39,2;b50,50;a10,0;f0,35;f11,4;f" + from + ",0;");
            x.pass(10);
            x.put(1, 1, 1);
            Check.same("350 units", x.lake(1), 350);
            Check.same("as long as it flows", x.behind(from - 11, 1), 350);
            Check.same("m", x.slow(0, 0, 0), from == 62 ? 9 : NONE);
        }
    }

    /** "ahead of step 1": the inch that is dug lets go in the same minute. */
    private static void slowDigsAheadOfStep1() {
        DamOfTurf x = Check.dam("c9,2;b50,50;a1,0;f0,9;f2,0;r3,3,4;");
        x.pass(1);
        // By m = 1 five go over in the second minute; by m = 2 an inch is dug in it as well.
        Check.same("five by 1 and by 2", x.slow(0, 5, 0), 1);
        Check.same("four by 3", x.slow(0, 4, 0), 3);
        Check.same("three never", x.slow(0, 3, 0), NONE);
        // STONE that is dug to 0 in a minute does not seep in it.
        DamOfTurf y = Check.dam("c1,3;c40,2;b50,50;a1,0;f0,9;f2,0;");
        Check.same("nine go over of nine", y.slow(0, 9, 0), 1);
        Check.same("by m = 2 three seep, an inch stays, five go over", y.slow(0, 8, 0), 2);
        Check.same("five", y.slow(0, 5, 0), 2);
        Check.same("no fewer", y.slow(0, 4, 0), NONE);
    }

    /** "in none of 60 minutes" */
    private static void slowIn60Minutes() {
        // Cell 1 is at the brim; a unit comes in minute 60 or 61 from now on. By m = 1 cell 0 is dug to 0.
        for (int at = 61; at <= 62; at++) {
            DamOfTurf x = Check.dam("c40,2;c2,2;b50,50;a10,0;f0,20;f2,0;f" + at + ",1;");
            x.pass(1);
            Check.same("a unit in minute " + (at - 1), x.slow(0, 0, 0), at == 61 ? NONE : 2);
            Check.same("a unit is allowed", x.slow(0, 1, 0), 2);
        }
        DamOfTurf y = Check.dam("c40,2;c2,2;b50,50;a10,0;f0,20;f2,0;f61,2;");
        y.pass(1);
        Check.same("two units in minute 60", y.slow(0, 1, 0), NONE);
    }

    /** "in which minute the LEVEL is 0 first then (to 60)", "NONE, also if it is not in 60" */
    private static void slowTillTheLevelIs0() {
        // Rain in the third minute from now on, which m = 2 does not dig in.
        String text = ",2;b50,50;a10,0;f0,60;f6,0;r8,8,5;";
        DamOfTurf x = Check.dam("c30" + text);
        x.pass(5);
        Check.same("m of 30 inches", x.slow(0, 10, 0), 2);
        Check.same("in minute 60", x.slow(0, 10, 1), 60);
        Check.same("m by more units", x.slow(0, 15, 0), 1);
        Check.same("in minute 30", x.slow(0, 15, 1), 30);
        DamOfTurf y = Check.dam("c31" + text + "r1,1,10;");
        y.pass(5);
        Check.same("m of 31 inches", y.slow(0, 10, 0), 2);
        Check.same("not in 60 minutes", y.slow(0, 10, 1), NONE);
        // MUD that is gone over in minute 60 lets all go in minute 61, which is not looked at.
        DamOfTurf z = Check.dam("c40,2;c2,0;b50,50;a10,0;f0,20;f2,0;f61,1;f62,0;");
        z.pass(1);
        Check.same("m", z.slow(0, 1, 0), 2);
        Check.same("not in minute 61", z.slow(0, 1, 1), NONE);
        Check.same("m that is not there", z.slow(0, 0, 1), NONE);
        // The first such minute; later there is water again.
        DamOfTurf w = Check.dam("c40,2;b50,50;a10,0;f5,10;");
        Check.same("in minute 1, which is 0 at first", w.slow(0, 999, 1), 1);
        w.pass(5);
        Check.same("behind 5 minutes", w.slow(0, 999, 1), 40);
        // Less than an inch of water is a LEVEL of 0.
        DamOfTurf v = Check.dam("c40,2;b50,50;a10,0;f0,9;f2,0;");
        v.pass(1);
        Check.same("nine units", v.slow(0, 999, 1), 1);
    }

    /** "while it is higher than 0" */
    private static void slowWhileHigherThan0() {
        DamOfTurf x = Check.dam("c0,2;c9,2;b50,50;a1,0;f0,9;");
        Check.same("a cell of 0", x.slow(0, 9, 0), 1);
        Check.same("empty in minute 1", x.slow(0, 9, 1), 1);
        DamOfTurf y = Check.dam("c2,2;c9,2;b50,50;a1,0;f0,9;");
        Check.same("a cell of 2", y.slow(0, 10, 0), 1);
        Check.same("empty in minute 2", y.slow(0, 10, 1), 2);
        // MUD that is worn to 0 in the first minute is dug no more.
        DamOfTurf z = Check.dam("c3,0;c9,2;b50,50;a1,0;f0,9;");
        Check.same("MUD of 3", z.slow(0, 11, 0), 1);
        Check.same("empty in minute 2", z.slow(0, 11, 1), 2);
        Check.same("nothing is dug", z.cell(0, 0), 3);
    }

    /** "h (1 to 40) or more" */
    private static void fillOf1To40() {
        Check.range("inches", 1, 40, h -> Check.dam("c9,2;").fill(h));
        DamOfTurf x = Check.dam("c40,2;b50,50;a1,0;f0,1;");
        for (int h = 1; h <= 40; h++) {
            Check.same("fill(" + h + ")", x.fill(h), h);
        }
        DamOfTurf y = Check.dam("c40,2;b50,50;a1,0;f0,7;");
        int[] due = {1, 1, 2, 2, 3, 6};
        int[] inches = {1, 7, 8, 14, 15, 40};
        for (int k = 0; k < due.length; k++) {
            Check.same("by seven, fill(" + inches[k] + ")", y.fill(inches[k]), due[k]);
        }
        Check.same("39 inches of EDGE", Check.dam("c39,2;b50,50;a1,0;f0,60;").fill(39), 1);
        Check.same("40 by 39 inches of EDGE", Check.dam("c39,2;b50,50;a1,0;f0,60;").fill(40), NONE);
        Check.same("40 by a bank of 39", Check.dam("c40,2;b50,39;a1,0;f0,60;").fill(40), NONE);
    }

    /** "NONE (not in 200)" */
    private static void fillIn200Minutes() {
        String text = "c40,2;b50,50;a10,0;f";
        Check.same("40 inches in minute 200", Check.dam(text + "1,2;").fill(40), 200);
        Check.same("40 inches in minute 201", Check.dam(text + "2,2;").fill(40), NONE);
        Check.same("39 inches in minute 196", Check.dam(text + "2,2;").fill(39), 196);
        Check.same("an inch in minute 200", Check.dam("c9,2;a10,0;r99,99,9;f0,0;").fill(1), NONE);
        DamOfTurf x = Check.dam(text + "2,2;");
        x.pass(1);
        Check.same("40 inches in minute 201 from minute 1 on", x.fill(40), 200);
    }

    /** "were there no water": by what flows from now on, and by cells as they are now. */
    private static void fillFromNoWater() {
        DamOfTurf x = Check.dam("c9,2;b50,50;a1,0;f0,9;f5,1;");
        Check.same("at first", x.fill(9), 1);
        x.pass(4);
        Check.same("full now", x.lake(0), 9);
        Check.same("by a unit a minute", x.fill(9), 9);
        Check.same("an inch", x.fill(1), 1);
        Check.same("the water stays", x.lake(1), 9);
        x.dig(0, 1);
        Check.same("a lower cell", x.fill(9), NONE);
        Check.same("as high as it", x.fill(8), 8);
    }

    /** "n inches (1 to 9)" */
    private static void troddenBy1To9() {
        Check.range("inches", 1, 9, n -> Check.dam("c9,2;").trodden(0, n));
        for (int cells = 1; cells <= 8; cells += 7) {
            String text = "c9,2;".repeat(cells);
            Check.range("cell trodden, of " + cells, 0, cells - 1, c -> Check.dam(text).trodden(c, 1));
        }
        // MUD is gone by two inches a minute.
        DamOfTurf x = Check.dam("c2,0;c40,2;b50,50;a1,0;f0,60;");
        for (int n = 1; n <= 9; n++) {
            Check.same("trodden(0, " + n + ")", x.trodden(0, n), 200 + (n + 1) / 2);
        }
    }

    /** "(40 at most)", "NO: above 40" */
    private static void troddenTo40() {
        for (int n = 1; n <= 9; n++) {
            DamOfTurf x = Check.dam("c" + (40 - n) + ",2;c2,0;b50,50;a1,0;f0,60;");
            Check.same("to 40 by " + n, x.trodden(0, n), 200);
            DamOfTurf y = Check.dam("c" + (41 - n) + ",2;c2,0;b50,50;a1,0;f0,60;");
            Check.same("to 41 by " + n, y.trodden(0, n), NO);
        }
    }

    /** "by how many minutes GONE would be later .. and 200 (200: no later ..)" */
    private static void troddenLaterOrSooner() {
        DamOfTurf x = Check.dam("c3,0;c9,2;b50,50;a1,0;f0,60;");
        Check.same("no later: another is gone", Check.dam("c9,2;c3,0;b50,50;a1,0;f0,60;").trodden(0, 1), 200);
        Check.same("no later: two minutes for 3 and 4", x.trodden(0, 1), 200);
        Check.same("a minute later", x.trodden(0, 2), 201);
        // TURF of 4 is gone in minute 8; were it 5, the MUD of 4 in minute 2.
        DamOfTurf y = Check.dam("c4,1;c4,0;b50,50;a1,0;f0,60;");
        Check.same("six minutes sooner", y.trodden(0, 1), 194);
        Check.same("it is the TURF still", y.trodden(1, 1), 200);
        DamOfTurf z = Check.dam("c39,1;c40,2;b50,50;a1,0;f0,60;");
        Check.same("from minute 78 to 80", z.trodden(0, 1), 202);
        DamOfTurf w = Check.dam("c39,1;c39,0;b50,50;a1,0;f0,60;");
        Check.same("from minute 78 to 20", w.trodden(0, 1), 142);
    }

    /** "in minute 200, if it would be none then" */
    private static void troddenIn200Minutes() {
        DamOfTurf x = Check.dam("c2,0;c3,2;b50,50;a1,0;f0,60;");
        Check.same("a minute later", x.trodden(0, 1), 201);
        Check.same("none, from minute 1", x.trodden(0, 2), 399);
        // An inch more is five minutes of water; it wears in 18 minutes as well.
        String text = "c35,0;b50,50;a5,0;f";
        int[] froms = {1, 2, 3, 4, 7, 8, 9, 10};
        for (int from : froms) {
            int lower = 175 + from + 17;
            DamOfTurf y = Check.dam(text + from + ",1;");
            Check.same("gone(0), f" + from, y.gone(0), lower > 200 ? NONE : lower);
            int due = lower > 200 ? NONE : Math.min(200, lower + 5) - lower + 200;
            Check.same("trodden(0, 1), f" + from, y.trodden(0, 1), due);
        }
    }

    /** "none (it is none now)" */
    private static void troddenNone() {
        Check.same("no water", Check.dam("c9,0;").trodden(0, 1), NONE);
        Check.same("SLATE", Check.dam("c9,2;f0,60;").trodden(0, 9), NONE);
        // Though it would be gone if it were higher: the MUD beside it is not gone over now.
        DamOfTurf x = Check.dam("c1,2;c2,0;b50,50;a1,0;f0,60;");
        Check.same("none now", x.gone(0), NONE);
        Check.same("gone then", x.trodden(0, 2), NONE);
        Check.same("in minute 201", Check.dam("c36,0;b50,50;a5,0;f4,1;").trodden(0, 1), NONE);
        Check.same("NO ahead of NONE", Check.dam("c40,2;f0,60;").trodden(0, 1), NO);
        Check.same("BAD ahead of NO", Check.dam("c40,2;f0,60;").trodden(0, 10), BAD);
    }

    /** "From now on": 999 minutes bound the ACTS alone. */
    private static void allGoBeyond999() {
        DamOfTurf x = Check.dam("c30,0;b50,50;a20,5;f0,1;");
        for (int k = 0; k < 17; k++) {
            x.pass(k == 16 ? 39 : 60);
        }
        Check.same("minutes", x.lake(2), 999);
        Check.same("water", x.lake(1), 999);
        Check.same("an inch of SLATE", x.best(1, 2, 60, -1), 1059);
        Check.same("no gap is gone over", x.gap(60, 0), 40);
        // Of twelve inches less it takes 1215 units in minute 60, of fourteen less 1000 in minute 56.
        Check.same("each fifth minute", x.slow(0, 0, 0), 5);
        Check.same("not empty", x.slow(0, 0, 1), NONE);
        Check.same("25 units are an inch", x.fill(1), 25);
        Check.same("175 units are five inches", x.fill(5), 175);
        Check.same("225 units, which six take, do not come in 200", x.fill(6), NONE);
        x.dig(0, 9);
        x.dig(0, 9);
        Check.same("MUD of twelve inches", x.gone(0), 6);
        Check.same("of thirteen", x.trodden(0, 1), 201);
        Check.same("it does not hold for ten minutes", x.odds(1, 0, 10, 0), 0);
    }
}
