/**
 * Boundary cases of "3 From now on, nothing else being done (to 200 minutes, if nothing is told)", as promises 14 to
 * 17 answer. Each method is one sentence of the document.
 */
public final class BoundsOfComingTest {
    private static final int BAD = DamOfTurf.BAD, NONE = DamOfTurf.NONE;
    /** MUD of 36 inches: 180 units below the edge, a unit a minute from minute M on, then worn for 18 minutes. */
    private static final String SLOWLY = "c36,0;b50,50;a5,0;f";

    public static void main(String[] args) {
        behind0To200Minutes();
        behindTellsThree();
        behindNothing();
        behindEachMinute();
        behindGoesBeyond999();
        behindTellsWhatWentOverInThem();
        worn0To200Minutes();
        wornOfACell();
        wornNothing();
        wornByEvenMinutesOfAll();
        wornAsMuchAsComes();
        overIsTheNextMinute();
        overTo200Minutes();
        overAtEachPlace();
        overWhenAUnitDoes();
        overAsksForTwo();
        goneIsTheNextMinute();
        goneTo200Minutes();
        goneAtEachCell();
        goneIsTheFirst();
        goneWhereNoneIsHigher();
        goneAsksForTwo();
        Check.end();
    }

    /** "Behind n minutes (0 to 200)" */
    private static void behind0To200Minutes() {
        for (int what = 0; what <= 2; what++) {
            int asked = what;
            Check.range("minutes behind", 0, 200, n -> Check.dam("c9,2;f0,1;").behind(n, asked));
        }
        DamOfTurf x = Check.dam("c40,2;b50,50;a20,5;f0,1;");
        for (int n : new int[] {0, 1, 2, 60, 61, 199, 200}) {
            Check.same("a unit a minute, " + n, x.behind(n, 1), n);
        }
    }

    /** "the LEVEL (what = 0), UNITS (1), what went over in them (2). BAD." */
    private static void behindTellsThree() {
        Check.range("what behind", 0, 2, n -> Check.dam("c9,2;f0,1;").behind(1, n));
        DamOfTurf x = Check.dam("c2,2;b50,50;a3,0;f0,5;");
        int[][] due = {{0, 0, 0}, {1, 5, 0}, {2, 6, 4}, {2, 6, 9}};
        for (int n = 0; n < due.length; n++) {
            for (int what = 0; what <= 2; what++) {
                Check.same("behind(" + n + ", " + what + ")", x.behind(n, what), due[n][what]);
            }
        }
        Check.same("both are none", x.behind(201, 3), BAD);
    }

    private static void behindNothing() {
        DamOfTurf x = Check.dam("c9,2;b50,50;a1,0;f0,5;");
        x.pass(3);
        Check.same("level now", x.behind(0, 0), 9);
        Check.same("units now", x.behind(0, 1), 9);
        Check.same("over in none", x.behind(0, 2), 0);
        // What is too high for a cell dug since goes over in the next minute alone.
        x.dig(0, 4);
        Check.same("units now", x.behind(0, 1), 9);
        Check.same("over in none", x.behind(0, 2), 0);
        Check.same("over in one", x.behind(1, 2), 9);
    }

    /** "the LEVEL .. behind n minutes" is that which so many MINUTES would leave. */
    private static void behindEachMinute() {
        String text = "c7,1;c9,0;c8,3;b9,12;a2,1;f0,9;f7,25;r5,9,30;";
        DamOfTurf x = Check.dam(text);
        DamOfTurf y = Check.dam(text);
        for (int n = 1; n <= 29; n++) {
            y.pass(1);
            Check.same("LEVEL behind " + n, x.behind(n, 0), y.lake(0));
            Check.same("UNITS behind " + n, x.behind(n, 1), y.lake(1));
            Check.same("over in " + n, x.behind(n, 2), y.lake(3));
            for (int c = 0; c < 3; c++) {
                Check.same("cell " + c + " behind " + n, x.worn(c, n), y.cell(c, 0));
            }
        }
    }

    private static void behindGoesBeyond999() {
        DamOfTurf x = Check.dam("c0,2;f0,1;");
        for (int k = 0; k < 17; k++) {
            x.pass(k == 16 ? 39 : 60);
        }
        Check.same("200 minutes behind 999", x.behind(200, 2), 200);
        Check.same("over(0)", x.over(0), 1);
        DamOfTurf y = Check.dam("c2,1;b50,50;a1,0;");
        for (int k = 0; k < 17; k++) {
            y.pass(k == 16 ? 39 : 60);
        }
        Check.same("night in minutes 1000 to 1059", y.night(0, 1), 1);
    }

    private static void behindTellsWhatWentOverInThem() {
        DamOfTurf x = Check.dam("c0,2;f0,7;");
        x.pass(60);
        Check.same("all", x.lake(3), 420);
        Check.same("in one", x.behind(1, 2), 7);
        Check.same("in 200", x.behind(200, 2), 1400);
    }

    /** "How high a CELL is behind n minutes (0 to 200). BAD." */
    private static void worn0To200Minutes() {
        Check.range("minutes worn", 0, 200, n -> Check.dam("c9,2;f0,1;").worn(0, n));
        DamOfTurf x = Check.dam(SLOWLY + "3,1;");
        int[] minutes = {182, 183, 184, 198, 199, 200};
        int[] due = {36, 34, 32, 4, 2, 0};
        for (int k = 0; k < minutes.length; k++) {
            Check.same("worn(0, " + minutes[k] + ")", x.worn(0, minutes[k]), due[k]);
        }
    }

    private static void wornOfACell() {
        for (int cells = 1; cells <= 8; cells += 7) {
            String text = "c9,2;".repeat(cells);
            Check.range("cell worn, of " + cells, 0, cells - 1, c -> Check.dam(text).worn(c, 1));
        }
        DamOfTurf x = Check.dam("c1,2;c2,2;c3,2;c4,2;c5,2;c6,2;c7,2;c8,2;");
        for (int c = 0; c < 8; c++) {
            Check.same("cell " + c, x.worn(c, 200), c + 1);
        }
        Check.same("both are none", x.worn(8, 201), BAD);
    }

    private static void wornNothing() {
        DamOfTurf x = Check.dam("c9,0;b50,50;a1,0;f0,60;");
        Check.same("now", x.worn(0, 0), 9);
        Check.same("behind one", x.worn(0, 1), 7);
        Check.same("behind four", x.worn(0, 4), 1);
        Check.same("behind five: 0 at least", x.worn(0, 5), 0);
        Check.same("behind 200", x.worn(0, 200), 0);
        x.pass(2);
        x.put(0, 0, 1);
        Check.same("now, worn and laid", x.worn(0, 0), 6);
    }

    private static void wornByEvenMinutesOfAll() {
        DamOfTurf x = Check.dam("c40,1;b50,50;a1,0;f0,60;");
        for (int gone = 0; gone <= 3; gone++) {
            Check.same("1 behind " + gone, x.cell(0, 0) - x.worn(0, 1), gone % 2);
            Check.same("2 behind " + gone, x.cell(0, 0) - x.worn(0, 2), 1);
            Check.same("3 behind " + gone, x.cell(0, 0) - x.worn(0, 3), gone % 2 + 1);
            x.pass(1);
        }
    }

    /** By what comes then, no more and no less: the edge is reached in minute 9, gone over in minute 10. */
    private static void wornAsMuchAsComes() {
        DamOfTurf x = Check.dam("c9,0;b50,50;a10,0;f0,10;");
        Check.same("behind 9", x.worn(0, 9), 9);
        Check.same("behind 10", x.worn(0, 10), 7);
        DamOfTurf y = Check.dam("c9,0;b50,50;a10,0;f0,10;f9,9;");
        Check.same("a unit less, behind 10", y.worn(0, 10), 7);
        DamOfTurf z = Check.dam("c9,0;b50,50;a10,0;f0,10;f9,9;f10,1;");
        Check.same("ten units less, behind 10", z.worn(0, 10), 9);
        Check.same("and behind 11", z.worn(0, 11), 7);
    }

    /** "OVER: the first minute (1: the next one) in which some water GOES OVER" */
    private static void overIsTheNextMinute() {
        DamOfTurf x = Check.dam("c5,2;b50,50;a1,0;f0,1;");
        for (int left = 6; left >= 1; left--) {
            Check.same("over(0)", x.over(0), left);
            x.pass(1);
        }
        Check.same("it goes over now", x.lake(3), 1);
        Check.same("and in the next one", x.over(0), 1);
        DamOfTurf y = Check.dam("c5,2;b50,50;a1,0;f0,5;f2,0;");
        y.pass(1);
        Check.same("no more water", y.over(0), NONE);
        y.dig(0, 1);
        Check.same("a cell that was dug", y.over(0), 1);
    }

    /** "(to 200 minutes, if nothing is told)", "none" */
    private static void overTo200Minutes() {
        // 40 inches take 200 units, a unit comes each minute, and some more in the first one.
        String rain = "c40,2;b50,50;a5,0;f0,1;r1,1,";
        Check.same("a unit more: 201 in minute 200", Check.dam(rain + "1;").over(0), 200);
        Check.same("a unit more: the place", Check.dam(rain + "1;").over(1), 0);
        Check.same("no more: 200 in minute 200", Check.dam(rain + "0;").over(0), NONE);
        Check.same("no more: the place", Check.dam(rain + "0;").over(1), NONE);
        Check.same("two more", Check.dam(rain + "2;").over(0), 199);
    }

    /** "THE PLACE" */
    private static void overAtEachPlace() {
        for (int c = 0; c < 8; c++) {
            DamOfTurf x = Check.dam("c9,2;".repeat(c) + "c8,2;" + "c9,2;".repeat(7 - c) + "b9,9;f0,60;");
            Check.same("at cell " + c, x.over(1), c);
        }
        Check.same("at the left bank", Check.dam("c9,2;b8,8;f0,60;").over(1), 8);
        Check.same("at the right bank", Check.dam("c9,2;b9,8;f0,60;").over(1), 9);
        Check.same("of MUD as high as SLATE ahead of it", Check.dam("c9,2;c9,0;b9,50;f0,60;").over(1), 0);
        Check.same("of MUD that is worn away", Check.dam("c9,0;c2,0;b50,50;f0,60;").over(1), 1);
    }

    private static void overWhenAUnitDoes() {
        Check.same("as much as the edge takes", Check.dam("c5,2;b50,50;a1,0;f0,5;f2,0;").over(0), NONE);
        Check.same("a unit more", Check.dam("c5,2;b50,50;a1,0;f0,6;f2,0;").over(0), 1);
        Check.same("what has seeped does not", Check.dam("c6,3;b50,50;a1,0;f0,6;f2,2;f3,0;").over(0), NONE);
        Check.same("no water at no edge", Check.dam("c0,2;b50,50;").over(0), NONE);
        Check.same("a unit at no edge", Check.dam("c0,2;b50,50;f0,1;").over(0), 1);
    }

    /** "the minute (what = 0), THE PLACE (1). NONE; BAD." */
    private static void overAsksForTwo() {
        Check.range("what of over", 0, 1, n -> Check.dam("c0,2;f0,1;").over(n));
        Check.range("what of over, none", 0, 1, n -> Check.dam("c0,2;").over(n));
    }

    /** "GONE: the first minute in which a CELL is BREACHED" */
    private static void goneIsTheNextMinute() {
        DamOfTurf x = Check.dam("c9,0;b50,50;a1,0;f0,60;");
        for (int left = 5; left >= 1; left--) {
            Check.same("gone(0)", x.gone(0), left);
            x.pass(1);
        }
        Check.same("it is gone now", x.cell(0, 2), 1);
        Check.same("and not again", x.gone(0), NONE);
        x.put(0, 0, 1);
        Check.same("but when it is laid again", x.gone(0), 1);
        Check.same("an inch of TURF in minute 1", Check.dam("c1,1;b50,50;a1,0;f0,60;").gone(0), 2);
    }

    private static void goneTo200Minutes() {
        int[] due = {199, 200, NONE, NONE};
        for (int from = 2; from <= 5; from++) {
            DamOfTurf x = Check.dam(SLOWLY + from + ",1;");
            Check.same("gone(0), f" + from, x.gone(0), due[from - 2]);
            Check.same("gone(1), f" + from, x.gone(1), due[from - 2] == NONE ? NONE : 0);
        }
        DamOfTurf y = Check.dam(SLOWLY + "4,1;");
        y.pass(1);
        Check.same("a minute later", y.gone(0), 200);
        y.undo();
        Check.same("undone", y.gone(0), NONE);
    }

    /** "it": the CELL. */
    private static void goneAtEachCell() {
        for (int c = 0; c < 8; c++) {
            DamOfTurf x = Check.dam("c9,2;".repeat(c) + "c8,0;" + "c9,2;".repeat(7 - c) + "b9,9;f0,60;");
            Check.same("cell " + c, x.gone(1), c);
        }
    }

    private static void goneIsTheFirst() {
        // TURF as high as MUD stands ahead of it: it is worn alone, and gone.
        DamOfTurf x = Check.dam("c4,1;c4,0;b50,50;a1,0;f0,60;");
        Check.same("gone(0)", x.gone(0), 8);
        Check.same("gone(1)", x.gone(1), 0);
        // In minute 1 the TURF is not worn: it stays THE PLACE.
        DamOfTurf y = Check.dam("c4,0;c5,1;b50,50;a1,0;f0,60;");
        Check.same("gone(0)", y.gone(0), 2);
        Check.same("gone(1)", y.gone(1), 0);
    }

    private static void goneWhereNoneIsHigher() {
        for (int stuff = 0; stuff <= 3; stuff++) {
            Check.same("0 inches", Check.dam("c0," + stuff + ";c9,0;b50,50;f0,60;").gone(0), NONE);
            DamOfTurf x = Check.dam("c1," + stuff + ";b50,50;a1,0;f0,60;");
            Check.same("an inch", x.gone(0), stuff == 0 ? 1 : stuff == 1 ? 2 : NONE);
            DamOfTurf y = Check.dam("c1," + stuff + ";b0,0;a1,0;f0,60;");
            Check.same("an inch above a bank", y.gone(0), NONE);
        }
    }

    /** "the minute (what = 0), the CELL (1). NONE; BAD." */
    private static void goneAsksForTwo() {
        Check.range("what of gone", 0, 1, n -> Check.dam("c1,0;b50,50;f0,60;").gone(n));
        Check.range("what of gone, none", 0, 1, n -> Check.dam("c0,2;").gone(n));
    }
}
