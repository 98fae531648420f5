/**
 * Boundary cases of "2 A LEVEL ..", of its four steps of a minute, as promises 6 to 8 and 12 answer. Each method is
 * one sentence, or one step, of the document.
 */
public final class BoundsOfWaterTest {
    private static final int BAD = DamOfTurf.BAD;

    public static void main(String[] args) {
        cellIsOneThatIsTold();
        lakeIs0To4();
        edgeIs0To1();
        levelTakesNoMore();
        levelIs60AtMost();
        edgeIsTheLowest();
        placeIsTheFirstOfThatHeight();
        placeIsABankOtherwise();
        minuteIsOneMore();
        flowComesAheadOfSeeping();
        seepsByTheSameLevel();
        seepsIfHigherThan0();
        seepsAsMuchAsThereIs();
        mudAndSlateSeepNothing();
        turfSeepsAnEighth();
        stoneSeepsAThird();
        seepsByTheWholeLevelNotByTheEdge();
        goesOverAboveTheEdge();
        goesOverAtABank();
        goesOverBehindSeeping();
        allGoesOverAtNothing();
        mudWearsByTwo();
        turfWearsInEvenMinutes();
        slateAndStoneWearNot();
        wearsOnlyIfAnyDid();
        wearsOnlyAtACell();
        wearsOnlyThePlace();
        wearsBehindGoingOver();
        breachedOnlyIfItWasHigher();
        breachedEachTime();
        sumsGoOn();
        Check.end();
    }

    /** A dam that behaves as told in its first minute, when so many units come, and none later. */
    private static DamOfTurf first(String cells, String lake, int units) {
        StringBuilder text = new StringBuilder(cells).append("b50,50;").append(lake);
        text.append("f0,").append(Math.min(units, 60)).append(";f2,0;");
        for (int rest = units - 60; rest > 0; rest -= 30) {
            text.append("r0,1,").append(Math.min(rest, 30)).append(';');
        }
        DamOfTurf x = Check.dam(text.toString());
        x.pass(1);
        return x;
    }

    /** "Of a CELL: how high it is (what = 0), its STUFF (1), how often it was BREACHED (2). BAD." */
    private static void cellIsOneThatIsTold() {
        for (int cells = 1; cells <= 8; cells++) {
            DamOfTurf x = Check.dam("c9,2;".repeat(cells));
            for (int what = 0; what <= 2; what++) {
                int asked = what;
                Check.range("cell of " + cells, 0, cells - 1, n -> x.cell(n, asked));
            }
        }
        Check.range("what of a cell", 0, 2, n -> new DamOfTurf().cell(0, n));
        Check.same("no cell and no what", new DamOfTurf().cell(3, 3), BAD);
    }

    /** "its LEVEL (what = 0), UNITS (1), minutes gone by (2), all that went over (3), all that seeped (4). BAD." */
    private static void lakeIs0To4() {
        Check.range("lake", 0, 4, n -> new DamOfTurf().lake(n));
        DamOfTurf x = first("c3,3;", "a2,0;", 9);
        int[] due = {3, 6, 1, 2, 1};
        for (int what = 0; what <= 4; what++) {
            Check.same("lake(" + what + ")", x.lake(what), due[what]);
        }
    }

    /** "EDGE (what = 0), THE PLACE (1). BAD." */
    private static void edgeIs0To1() {
        Check.range("edge", 0, 1, n -> new DamOfTurf().edge(n));
    }

    /** "the LEVEL of some water is the greatest h .. that takes no more than that" */
    private static void levelTakesNoMore() {
        String[] lakes = {"a20,5;", "a1,0;", "a1,5;", "a20,0;", "a6,1;"};
        // What a level of 1, 2, 3, 4 takes.
        int[][] takes = {{25, 55, 90, 130}, {1, 2, 3, 4}, {6, 17, 33, 54}, {20, 40, 60, 80}, {7, 15, 24, 34}};
        for (int k = 0; k < lakes.length; k++) {
            for (int h = 1; h <= 4; h++) {
                int units = takes[k][h - 1];
                Check.same(lakes[k] + " " + units + " units", first("c40,2;", lakes[k], units).lake(0), h);
                Check.same(lakes[k] + " a unit less", first("c40,2;", lakes[k], units - 1).lake(0), h - 1);
            }
        }
        Check.same("39 of 40", first("c40,2;", "a1,0;", 39).lake(0), 39);
        Check.same("40 of 40", first("c40,2;", "a1,0;", 40).lake(0), 40);
        Check.same("no water", first("c40,2;", "a1,0;", 0).lake(0), 0);
        DamOfTurf x = Check.dam("c40,2;b50,50;a20,5;f0,60;r0,99,10;");
        x.pass(60);
        Check.same("70 minutes of 70 units take no edge", x.pass(9), 39);
        Check.same("4830 units", x.lake(1), 4830);
        Check.same("4900 units", x.pass(1), 40);
        Check.same("lake(3)", x.lake(3), 0);
    }

    /** "(60 at most)": seen at what seeps while the water has not gone over yet, and at what was SEEN. */
    private static void levelIs60AtMost() {
        int[] units = {55, 56, 60, 64, 72, 180};
        int[] turf = {6, 7, 7, 7, 7, 7};
        for (int k = 0; k < units.length; k++) {
            Check.same("TURF by " + units[k], first("c40,1;", "a1,0;", units[k]).lake(4), turf[k]);
        }
        int[] others = {56, 57, 59, 60, 63, 180};
        int[] stone = {18, 19, 19, 20, 20, 20};
        for (int k = 0; k < others.length; k++) {
            Check.same("STONE by " + others[k], first("c40,3;", "a1,0;", others[k]).lake(4), stone[k]);
        }
        DamOfTurf x = Check.dam("c9,2;a1,0;");
        x.seen(60, 3);
        Check.same("60, 63, .. 90 units are of 60 inches", x.flows(), Integer.MAX_VALUE >> 20 << 20);
    }

    /** "EDGE is the height of the lowest of CELLS and banks" */
    private static void edgeIsTheLowest() {
        int[][] due = {{40, 40}, {0, 0}, {9, 8}, {7, 9}, {9, 9}, {0, 8}, {0, 9}, {1, 7}};
        String[] texts = {"c40,0;b50,50;", "c0,0;b0,0;", "c10,0;c10,0;b9,10;", "c8,0;b8,7;", "c9,0;b10,10;",
                "c40,0;b0,50;", "c40,0;b50,0;", "c40,0;c40,0;c40,0;c40,0;c40,0;c40,0;c40,0;c1,0;b2,2;"};
        for (int k = 0; k < texts.length; k++) {
            Check.same("edge(0) of " + texts[k], Check.dam(texts[k]).edge(0), due[k][0]);
        }
        Check.same("40 of 41", Check.dam("c40,0;b41,41;").edge(0), 40);
        Check.same("39 of 40", Check.dam("c40,0;b39,41;").edge(0), 39);
    }

    /** "THE PLACE is the lowest CELL of that height, if there is one" */
    private static void placeIsTheFirstOfThatHeight() {
        Check.same("one", Check.dam("c9,0;b50,50;").edge(1), 0);
        Check.same("two as high", Check.dam("c9,0;c9,0;b50,50;").edge(1), 0);
        Check.same("the second", Check.dam("c10,0;c9,0;c9,0;b50,50;").edge(1), 1);
        Check.same("the eighth", Check.dam("c9,0;".repeat(7) + "c8,0;b50,50;").edge(1), 7);
        Check.same("as high as both banks", Check.dam("c9,0;b9,9;").edge(1), 0);
        Check.same("as high as both banks, the last", Check.dam("c10,0;c10,0;c9,0;b9,9;").edge(1), 2);
        Check.same("nothing, as high as both banks", Check.dam("c9,0;c0,0;b0,0;").edge(1), 1);
    }

    /** "else the left bank (8), if it is so high, else the right one (9)" */
    private static void placeIsABankOtherwise() {
        Check.same("both", Check.dam("c9,0;b8,8;").edge(1), 8);
        Check.same("left by an inch", Check.dam("c9,0;b8,9;").edge(1), 8);
        Check.same("right by an inch", Check.dam("c9,0;b9,8;").edge(1), 9);
        Check.same("right, 0", Check.dam("c1,0;b1,0;").edge(1), 9);
        Check.same("left, 0", Check.dam("c1,0;b0,1;").edge(1), 8);
    }

    /** "A MINUTE (the next one is one more than have gone by)": the first is minute 1. */
    private static void minuteIsOneMore() {
        DamOfTurf x = Check.dam("c40,2;b50,50;a1,0;f1,7;f2,0;r3,3,5;");
        int[] units = {7, 7, 12, 12};
        for (int k = 0; k < units.length; k++) {
            x.pass(1);
            Check.same("minutes", x.lake(2), k + 1);
            Check.same("units in minute " + (k + 1), x.lake(1), units[k]);
        }
        Check.same("what comes in minute 0 does not", first("c40,2;", "a1,0;f0,0;", 0).lake(1), 0);
    }

    /** "1 What flows, and rain, comes to the water. 2 By the LEVEL as it is then .." */
    private static void flowComesAheadOfSeeping() {
        DamOfTurf x = first("c40,3;", "a1,0;", 3);
        Check.same("seeped of what came", x.lake(4), 1);
        Check.same("is there", x.lake(1), 2);
        DamOfTurf y = Check.dam("c40,3;b50,50;a1,0;r1,1,3;");
        y.pass(1);
        Check.same("seeped of rain", y.lake(4), 1);
    }

    /** "By the LEVEL as it is then each CELL .. seeps": by one LEVEL all. */
    private static void seepsByTheSameLevel() {
        Check.same("two of TURF", first("c40,1;c40,1;", "a1,0;", 8).lake(4), 2);
        Check.same("eight of TURF", first("c40,1;".repeat(8), "a1,0;", 8).lake(4), 8);
        Check.same("two of STONE", first("c40,3;c40,3;", "a1,0;", 6).lake(4), 4);
        Check.same("TURF, then STONE", first("c40,1;c40,3;", "a1,0;", 9).lake(4), 4);
        Check.same("STONE, then TURF", first("c40,3;c40,1;", "a1,0;", 9).lake(4), 4);
        Check.same("each is cut by itself", first("c40,3;c40,3;c40,3;", "a1,0;", 8).lake(4), 6);
    }

    /** "each CELL that is higher than 0 seeps" */
    private static void seepsIfHigherThan0() {
        for (int stuff = 1; stuff <= 3; stuff += 2) {
            DamOfTurf none = first("c0," + stuff + ";", "a1,0;", 9);
            Check.same("0 inches", none.lake(4), 0);
            Check.same("all went over", none.lake(3), 9);
            DamOfTurf one = first("c1," + stuff + ";", "a1,0;", 9);
            Check.same("an inch", one.lake(4), stuff);
            Check.same("the rest but an inch went over", one.lake(3), 8 - stuff);
        }
        // A cell that is dug to 0 seeps no more.
        DamOfTurf x = Check.dam("c2,3;c40,2;b50,50;a1,0;f0,9;");
        x.dig(0, 1);
        x.pass(1);
        Check.same("an inch is left", x.lake(4), 3);
        x.dig(0, 1);
        x.pass(1);
        Check.same("none is left", x.lake(4), 3);
    }

    /** "as much as there is" */
    private static void seepsAsMuchAsThereIs() {
        for (int cells = 1; cells <= 8; cells++) {
            DamOfTurf x = first("c40,3;".repeat(cells), "a1,0;", 3);
            Check.same(cells + " of STONE seep", x.lake(4), Math.min(cells, 3));
            Check.same("is left", x.lake(1), Math.max(0, 3 - cells));
            Check.same("goes over", x.lake(3), 0);
        }
        DamOfTurf y = first("c40,1;c40,3;c40,3;c40,3;", "a1,0;", 9);
        Check.same("TURF and three of STONE", y.lake(4), 9);
        Check.same("of a rest for none", first("c40,3;c40,3;c40,3;c40,3;c40,1;", "a1,0;", 9).lake(4), 9);
    }

    /** "MUD, SLATE nothing" */
    private static void mudAndSlateSeepNothing() {
        for (int stuff = 0; stuff <= 2; stuff += 2) {
            DamOfTurf x = first("c40," + stuff + ";", "a1,0;", 40);
            Check.same("seeped", x.lake(4), 0);
            Check.same("is there", x.lake(1), 40);
            Check.same("seeped by 180", first("c40," + stuff + ";", "a1,0;", 180).lake(4), 0);
        }
    }

    /** "TURF an eighth of the LEVEL (inches as UNITS, cut)" */
    private static void turfSeepsAnEighth() {
        int[] levels = {0, 1, 7, 8, 9, 15, 16, 17, 31, 32, 39, 40};
        int[] due = {0, 0, 0, 1, 1, 1, 2, 2, 3, 4, 4, 5};
        for (int k = 0; k < levels.length; k++) {
            Check.same("TURF, " + levels[k] + " inches", first("c40,1;", "a1,0;", levels[k]).lake(4), due[k]);
        }
        // The LEVEL, not the UNITS: 8 inches of 20 are 160.
        Check.same("159 units", first("c40,1;", "a20,0;", 159).lake(4), 0);
        Check.same("160 units", first("c40,1;", "a20,0;", 160).lake(4), 1);
    }

    /** "STONE a third (cut)" */
    private static void stoneSeepsAThird() {
        int[] levels = {0, 1, 2, 3, 4, 5, 6, 38, 39, 40};
        int[] due = {0, 0, 0, 1, 1, 1, 2, 12, 13, 13};
        for (int k = 0; k < levels.length; k++) {
            Check.same("STONE, " + levels[k] + " inches", first("c40,3;", "a1,0;", levels[k]).lake(4), due[k]);
        }
        Check.same("59 units", first("c40,3;", "a20,0;", 59).lake(4), 0);
        Check.same("60 units", first("c40,3;", "a20,0;", 60).lake(4), 1);
    }

    /** The LEVEL is that of the water then, though EDGE and the CELL are lower. */
    private static void seepsByTheWholeLevelNotByTheEdge() {
        DamOfTurf x = first("c1,3;c40,1;", "a1,0;", 48);
        Check.same("seeped", x.lake(4), 22);
        Check.same("went over", x.lake(3), 25);
        Check.same("is there", x.lake(1), 1);
    }

    /** "What is more water than a LEVEL of EDGE takes GOES OVER" */
    private static void goesOverAboveTheEdge() {
        int[][] takes = {{0, 0}, {1, 25}, {2, 55}, {3, 90}, {4, 130}};
        for (int[] t : takes) {
            for (int more = 0; more <= 2; more++) {
                DamOfTurf x = first("c" + t[0] + ",2;c40,2;", "a20,5;", t[1] + more);
                Check.same(t[1] + " and " + more + ": over", x.lake(3), more);
                Check.same(t[1] + " and " + more + ": there", x.lake(1), t[1]);
                Check.same(t[1] + " and " + more + ": level", x.lake(0), t[0]);
            }
        }
        DamOfTurf y = first("c2,2;", "a20,5;", 54);
        Check.same("a unit less: over", y.lake(3), 0);
        Check.same("a unit less: there", y.lake(1), 54);
    }

    private static void goesOverAtABank() {
        for (String banks : new String[] {"b3,50;", "b50,3;", "b3,3;"}) {
            DamOfTurf x = first("c4,0;", banks + "a1,0;", 5);
            Check.same("the last banks count: over", x.lake(3), 2);
            DamOfTurf y = Check.dam("c4,0;a1,0;f0,1;" + banks);
            y.pass(3);
            Check.same(banks + " over in 3 minutes", y.lake(3), 0);
            y.pass(1);
            Check.same(banks + " over in 4 minutes", y.lake(3), 1);
            Check.same(banks + " the cell", y.cell(0, 0), 4);
        }
    }

    /** Step 2 ahead of step 3: what has seeped does not go over. */
    private static void goesOverBehindSeeping() {
        DamOfTurf x = first("c8,3;", "a1,0;", 12);
        Check.same("12 units, 4 seep, 8 stay", x.lake(3), 0);
        Check.same("is there", x.lake(1), 8);
        DamOfTurf y = first("c8,3;", "a1,0;", 13);
        Check.same("13 units, 4 seep", y.lake(3), 1);
        Check.same("is there", y.lake(1), 8);
    }

    private static void allGoesOverAtNothing() {
        DamOfTurf x = first("c0,0;", "a1,0;", 1);
        Check.same("over", x.lake(3), 1);
        Check.same("there", x.lake(1), 0);
        DamOfTurf y = Check.dam("c9,2;b0,9;f0,60;");
        y.pass(60);
        Check.same("over at the bank", y.lake(3), 3600);
    }

    /** "MUD by 2 inches .. 0 at least" */
    private static void mudWearsByTwo() {
        for (int h = 0; h <= 5; h++) {
            DamOfTurf x = Check.dam("c" + h + ",0;b50,50;a1,0;f0,60;");
            for (int t = 1; t <= 5; t++) {
                x.pass(1);
                Check.same("MUD of " + h + " in minute " + t, x.cell(0, 0), Math.max(0, h - 2 * t));
                Check.same("MUD of " + h + " breached", x.cell(0, 2), h > 0 && 2 * t >= h ? 1 : 0);
            }
        }
    }

    /** "TURF by 1 in each even minute": of all that have gone by. */
    private static void turfWearsInEvenMinutes() {
        for (int h = 0; h <= 3; h++) {
            DamOfTurf x = Check.dam("c" + h + ",1;b50,50;a1,0;f0,60;");
            for (int t = 1; t <= 8; t++) {
                x.pass(1);
                Check.same("TURF of " + h + " in minute " + t, x.cell(0, 0), Math.max(0, h - t / 2));
                Check.same("TURF of " + h + " breached", x.cell(0, 2), h > 0 && t / 2 >= h ? 1 : 0);
            }
        }
        // It goes over in odd minutes alone, by an inch of rain.
        DamOfTurf odd = Check.dam("c2,1;b50,50;a1,0;f0,2;f2,0;r3,3,1;r5,5,1;r7,7,1;");
        odd.pass(8);
        Check.same("over in odd minutes", odd.lake(3), 3);
        Check.same("not worn", odd.cell(0, 0), 2);
        DamOfTurf even = Check.dam("c2,1;b50,50;a1,0;f0,2;f2,0;r4,4,1;");
        even.pass(8);
        Check.same("over in minute 4", even.cell(0, 0), 1);
        // What is dug and laid between takes no minutes.
        DamOfTurf y = Check.dam("c3,1;b50,50;a1,0;f0,60;");
        y.pass(1);
        y.put(0, 1, 1);
        Check.same("worn in minute 2", y.pass(1) * 10 + y.cell(0, 0), 43);
        y.dig(0, 1);
        y.pass(1);
        Check.same("not in minute 3", y.cell(0, 0), 2);
    }

    /** "SLATE, STONE not" */
    private static void slateAndStoneWearNot() {
        for (int stuff = 2; stuff <= 3; stuff++) {
            DamOfTurf x = Check.dam("c1," + stuff + ";b50,50;a1,0;f0,60;");
            x.pass(60);
            Check.same("an inch of STUFF " + stuff, x.cell(0, 0), 1);
            Check.same("it was not breached", x.cell(0, 2), 0);
            Check.same("though it went over", x.lake(3) > 0 ? 1 : 0, 1);
        }
    }

    /** "If any did" */
    private static void wearsOnlyIfAnyDid() {
        DamOfTurf x = first("c9,0;", "a1,0;", 9);
        x.pass(60);
        Check.same("9 units at 9 inches", x.cell(0, 0), 9);
        DamOfTurf y = first("c9,0;", "a1,0;", 10);
        Check.same("10 units", y.cell(0, 0), 7);
        // The 2 units above 7 inches go over in the next minute.
        Check.same("the next minute", y.pass(1) * 10 + y.cell(0, 0), 75);
        y.pass(60);
        Check.same("to the end", y.cell(0, 0), 0);
    }

    /** "and THE PLACE is a CELL" */
    private static void wearsOnlyAtACell() {
        for (String banks : new String[] {"b8,8;", "b8,50;", "b50,8;"}) {
            DamOfTurf x = Check.dam("c9,0;a1,0;f0,60;" + banks);
            x.pass(60);
            Check.same("above " + banks, x.cell(0, 0), 9);
            DamOfTurf y = Check.dam("c8,0;a1,0;f0,60;" + banks);
            y.pass(1);
            Check.same("as high as " + banks, y.cell(0, 0), 6);
        }
    }

    private static void wearsOnlyThePlace() {
        DamOfTurf x = Check.dam("c5,0;c4,0;c4,0;b4,4;a1,0;f0,60;");
        int[] due = {524, 504, 504};
        for (int t = 0; t < due.length; t++) {
            x.pass(1);
            Check.same("minute " + (t + 1), x.cell(0, 0) * 100 + x.cell(1, 0) * 10 + x.cell(2, 0), due[t]);
        }
    }

    /** Step 3 ahead of step 4: the minute's water goes over by the EDGE ahead of wearing. */
    private static void wearsBehindGoingOver() {
        DamOfTurf x = Check.dam("c2,0;b50,50;a10,0;f0,60;");
        x.pass(1);
        Check.same("over", x.lake(3), 40);
        Check.same("there", x.lake(1), 20);
        Check.same("level", x.lake(0), 2);
        Check.same("the cell", x.cell(0, 0), 0);
        Check.same("edge(0)", x.edge(0), 0);
        x.pass(1);
        Check.same("over in the next", x.lake(3), 120);
        Check.same("there in the next", x.lake(1), 0);
        // Step 2 is ahead of it as well.
        DamOfTurf y = Check.dam("c1,1;b50,50;a1,0;f0,16;");
        y.pass(2);
        Check.same("TURF that is breached in minute 2 has seeped in it", y.lake(4), 4);
        y.pass(1);
        Check.same("but not later", y.lake(4), 4);
    }

    /** "a CELL that comes to 0 so (it was higher) is BREACHED in that minute" */
    private static void breachedOnlyIfItWasHigher() {
        for (int stuff = 0; stuff <= 3; stuff++) {
            DamOfTurf x = Check.dam("c0," + stuff + ";b50,50;a1,0;f0,60;");
            x.pass(60);
            Check.same("STUFF " + stuff + " of 0 inches", x.cell(0, 2), 0);
        }
        DamOfTurf y = Check.dam("c1,0;b50,50;a1,0;f0,60;");
        Check.same("not yet", y.cell(0, 2), 0);
        y.pass(1);
        Check.same("in minute 1", y.cell(0, 2), 1);
        y.pass(60);
        Check.same("once", y.cell(0, 2), 1);
        DamOfTurf z = Check.dam("c1,0;c40,2;b50,50;a1,0;f0,60;");
        z.dig(0, 1);
        z.pass(9);
        Check.same("dug to 0", z.cell(0, 2), 0);
    }

    /** "how often it was BREACHED" */
    private static void breachedEachTime() {
        DamOfTurf x = Check.dam("c1,0;c40,2;b50,50;a1,0;f0,60;");
        for (int k = 1; k <= 14; k++) {
            x.pass(1);
            Check.same("breached", x.cell(0, 2), k);
            Check.same("the other", x.cell(1, 2), 0);
            Check.same("laid again", x.put(0, 0, 1 + k % 2), 1 + k % 2);
        }
    }

    /** "all that went over (3), all that seeped (4)": over acts, and what is laid does not change them. */
    private static void sumsGoOn() {
        DamOfTurf x = Check.dam("c3,3;b50,50;a1,0;f0,9;");
        int[] over = {3, 8, 13};
        int[] seeped = {3, 7, 11};
        for (int k = 0; k < over.length; k++) {
            x.pass(1);
            Check.same("over", x.lake(3), over[k]);
            Check.same("seeped", x.lake(4), seeped[k]);
        }
        x.put(0, 2, 1);
        Check.same("over behind put", x.lake(3), 13);
        Check.same("seeped behind put", x.lake(4), 11);
        x.pass(1);
        Check.same("over of SLATE", x.lake(3), 21);
        Check.same("seeped of SLATE", x.lake(4), 11);
    }
}
