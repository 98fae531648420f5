/** Promises 18 to 23: best, gap, together, slow, fill, trodden. */
public final class ShouldTest {
    private static final int BAD = DamOfTurf.BAD, NO = DamOfTurf.NO, NONE = DamOfTurf.NONE;
    private static final int LEAST = Integer.MIN_VALUE, GREATEST = Integer.MAX_VALUE;
    /** The lake rises an inch a minute to 5; MUD is worn to 3 in minute 6, to 1 in 7, to 0 in 8. */
    private static final String MUDDY = "c5,0;c6,2;a10,0;f0,10;b50,50;";

    public static void main(String[] args) {
        best();
        bestOfStuff();
        bestWithoutRoom();
        bestBad();
        gap();
        gapBad();
        together();
        togetherNone();
        slow();
        slowTillEmpty();
        slowBad();
        fill();
        trodden();
        Check.end();
    }

    private static void best(DamOfTurf x, int[] call, int water, int... inches) {
        String name = "best(" + call[0] + ", " + call[1] + ", " + call[2] + ", ";
        Check.same(name + "-1)", x.best(call[0], call[1], call[2], -1), water);
        for (int c = 0; c < inches.length; c++) {
            Check.same(name + c + ")", x.best(call[0], call[1], call[2], c), inches[c]);
        }
    }

    private static void best() {
        DamOfTurf x = Check.dam("c5,2;c5,2;c9,2;b50,50;a10,0;f0,10;");
        String was = Check.state(x);
        best(x, new int[] {1, 2, 60}, 50, 1, 0, 0);
        best(x, new int[] {2, 2, 60}, 60, 1, 1, 0);
        best(x, new int[] {3, 2, 60}, 60, 2, 1, 0);
        best(x, new int[] {4, 2, 60}, 70, 2, 2, 0);
        best(x, new int[] {5, 2, 60}, 70, 3, 2, 0);
        best(x, new int[] {5, 2, 5}, 50, 5, 0, 0);
        best(x, new int[] {5, 2, 6}, 60, 4, 1, 0);
        best(x, new int[] {5, 2, 1}, 10, 5, 0, 0);
        Check.same("state behind best", Check.state(x), was);
        x.pass(4);
        best(x, new int[] {5, 2, 2}, 60, 4, 1, 0);
        best(Check.dam("c9,2;c5,2;b50,50;a10,0;f0,10;"), new int[] {2, 2, 60}, 70, 0, 2);
        best(Check.dam("c3,2;c3,2;c3,2;c3,2;c3,2;c3,2;c3,2;c3,2;b50,50;a10,0;f0,10;"), new int[] {5, 2, 60}, 30,
                5, 0, 0, 0, 0, 0, 0, 0);
        best(Check.dam("c4,2;c4,2;c4,2;c3,2;c3,2;c3,2;c3,2;c3,2;b50,50;a10,0;f0,10;"), new int[] {5, 2, 60}, 40,
                0, 0, 0, 1, 1, 1, 1, 1);
    }

    private static void bestOfStuff() {
        String text = "c20,2;c20,3;b50,50;a10,0;f0,10;";
        best(Check.dam(text), new int[] {1, 0, 5}, 50, 0, 1);
        best(Check.dam(text), new int[] {2, 0, 5}, 50, 1, 1);
        // STONE at cell 0 would seep as well: minutes 3, 4 and 5 lose a unit each at cell 1 alone.
        best(Check.dam(text), new int[] {1, 3, 5}, 47, 0, 1);
        // MUD is worn, SLATE is not; to lay nothing there is not asked.
        best(Check.dam(MUDDY), new int[] {1, 2, 60}, 60, 1, 0);
        best(Check.dam(MUDDY), new int[] {2, 0, 60}, 60, 2, 0);
        best(Check.dam(MUDDY), new int[] {1, 0, 60}, 0, 1, 0);
        best(Check.dam(MUDDY), new int[] {1, 0, 7}, 60, 1, 0);
        best(Check.dam(MUDDY), new int[] {1, 0, 8}, 40, 1, 0);
    }

    private static void bestWithoutRoom() {
        DamOfTurf x = Check.dam("c40,2;c38,2;c40,2;b50,50;a1,0;f0,60;");
        best(x, new int[] {1, 2, 60}, 39, 0, 1, 0);
        best(x, new int[] {2, 2, 60}, 40, 0, 2, 0);
        best(x, new int[] {3, 2, 60}, NONE, NONE, NONE, NONE);
        Check.same("BAD ahead of NONE", x.best(3, 2, 60, 3), BAD);
        DamOfTurf y = Check.dam("c39,2;c38,2;c38,2;b50,50;a1,0;f0,60;");
        best(y, new int[] {4, 2, 60}, 39, 1, 2, 1);
        best(y, new int[] {5, 2, 60}, 40, 1, 2, 2);
        y.put(0, 2, 1);
        best(y, new int[] {5, 2, 60}, NONE, NONE, NONE, NONE);
        best(Check.dam("c40,0;f0,60;"), new int[] {1, 0, 1}, NONE, NONE);
    }

    private static void bestBad() {
        DamOfTurf x = Check.dam(MUDDY);
        int[][] bad = {{0, 0, 1, 0}, {6, 0, 1, 0}, {-1, 0, 1, 0}, {LEAST, 0, 1, 0}, {GREATEST, 0, 1, 0}, {1, -1, 1, 0},
                {1, 4, 1, 0}, {1, 0, 0, 0}, {1, 0, 61, 0}, {1, 0, LEAST, 0}, {1, 0, GREATEST, 0}, {1, 0, 1, -2},
                {1, 0, 1, 2}, {1, 0, 1, 8}, {1, 0, 1, LEAST}, {1, 0, 1, GREATEST}};
        for (int[] p : bad) {
            Check.same("best(" + p[0] + ", " + p[1] + ", " + p[2] + ", " + p[3] + ")", x.best(p[0], p[1], p[2], p[3]),
                    BAD);
        }
    }

    private static void gap(DamOfTurf x, int n, int height, int c) {
        Check.same("gap(" + n + ", 0)", x.gap(n, 0), height);
        Check.same("gap(" + n + ", 1)", x.gap(n, 1), c);
    }

    private static void gap() {
        DamOfTurf x = Check.dam("c10,2;c12,2;b50,50;a10,0;f0,10;");
        String was = Check.state(x);
        gap(x, 60, 12, 0);
        gap(x, 10, 40, 0);
        gap(x, 12, 40, 0);
        gap(x, 13, 12, 0);
        gap(x, 1, 40, 0);
        Check.same("state behind gap", Check.state(x), was);
        // Above a cell to the left a gap is lower by an inch, above one to the right as high.
        gap(Check.dam("c12,2;c10,2;b50,50;a10,0;f0,10;"), 60, 11, 1);
        gap(Check.dam("c12,2;c10,2;c12,2;b50,50;a10,0;f0,10;"), 60, 11, 1);
        gap(Check.dam("c12,2;c10,2;c15,2;b50,50;a10,0;f0,10;"), 12, 40, 1);
        gap(Check.dam("c12,2;c10,2;c15,2;b50,50;a10,0;f0,10;"), 13, 11, 1);
        gap(Check.dam("c12,2;c12,2;b9,8;a10,0;f0,10;"), 60, 8, 0);
        // Ten inches of SLATE keep the water that mud would let go, a gap may be higher than what it is in.
        gap(Check.dam("c4,0;c10,2;b50,50;a10,0;f0,10;"), 60, 10, 0);
        gap(Check.dam("c0,2;c0,2;b0,0;f0,5;"), 60, 0, 0);
        gap(Check.dam("c3,0;c0,2;b50,50;f0,60;"), 60, 2, 1);
        // STONE lets all seep that comes at nine inches; a gap in it would not.
        gap(Check.dam("c5,2;c9,3;b50,50;a3,0;f0,3;"), 60, 40, 0);
        gap(Check.dam("c5,2;c9,3;b50,50;a3,0;f0,9;"), 60, 9, 0);
        gap(Check.dam("c9,3;c5,2;b50,50;a3,0;f0,3;"), 60, 40, 1);
        // A single unit that goes over elsewhere is too much.
        gap(Check.dam("c10,2;c12,2;b50,50;a10,0;f0,10;f13,1;f14,0;"), 60, 12, 0);
        gap(Check.dam("c10,2;c12,2;b50,50;a10,0;f0,10;f13,0;"), 60, 40, 0);
        DamOfTurf y = Check.dam("c10,2;c12,2;b50,50;a10,0;f0,10;");
        y.pass(9);
        gap(y, 3, 40, 0);
        gap(y, 4, 12, 0);
    }

    private static void gapBad() {
        DamOfTurf x = Check.dam(MUDDY);
        for (int n : new int[] {0, 61, -1, LEAST, GREATEST}) {
            Check.same("gap(" + n + ", 0)", x.gap(n, 0), BAD);
        }
        for (int what : new int[] {-1, 2, LEAST, GREATEST}) {
            Check.same("gap(1, " + what + ")", x.gap(1, what), BAD);
        }
    }

    private static void together(String work, int minutes, int... who) {
        DamOfTurf x = Check.dam("c1,0;" + work);
        Check.same("together(-1) of " + work, x.together(-1), minutes);
        for (int j = 0; j < who.length; j++) {
            Check.same("together(" + j + ") of " + work, x.together(j), who[j]);
        }
        for (int j : new int[] {-2, who.length, 5, LEAST, GREATEST}) {
            Check.same("together(" + j + ") of " + work, x.together(j), BAD);
        }
    }

    private static void together() {
        together("", 0);
        together("p1,1,1,1;", 0);
        together("p1,0,0,0;j0,0,5;", 5, 0);
        together("p2,0,0,0;j0,0,5;", 3, 0);
        together("p9,0,0,0;j0,0,30;", 4, 0);
        together("p9,0,0,0;j0,0,27;", 3, 0);
        together("p1,0,0,0;p2,0,0,0;j0,0,5;", 3, 1);
        together("p2,0,0,0;p2,0,0,0;j0,0,4;j0,0,4;", 2, 0, 1);
        together("p2,0,0,0;p2,0,0,0;j0,0,3;j0,0,3;j0,0,3;", 4, 0, 0, 1);
        together("p0,1,0,0;p0,0,1,0;p0,0,0,1;p1,0,0,0;j0,3,2;j0,2,4;j0,1,6;j0,0,8;", 8, 2, 1, 0, 3);
        // Each job is cut up by itself: 2 and 2 minutes, not 3.
        together("p2,0,0,0;j0,0,3;j0,0,3;", 4, 0, 0);
        // The one who is slow at it does it, as the other is at work longer.
        together("p4,3,0,0;p1,1,0,0;j0,0,20;j0,1,5;", 5, 0, 1);
        together("p1,1,1,1;p1,1,1,1;p1,1,1,1;p1,1,1,1;j0,0,1;j0,1,1;j0,2,1;j0,3,1;j0,0,1;", 2, 0, 0, 1, 1, 2);
        // As soon, and JOB 0 by a lower child.
        together("p1,0,0,0;p1,0,0,0;p1,0,0,0;j0,0,3;j0,0,9;", 9, 0, 1);
        together("p3,0,0,0;p3,0,0,0;p1,0,0,0;j0,0,30;j0,0,3;j0,0,3;", 10, 0, 1, 1);
    }

    private static void togetherNone() {
        together("j0,0,1;", NONE, NONE);
        together("p0,9,9,9;j0,0,1;", NONE, NONE);
        together("p0,9,9,9;p9,0,9,9;j0,0,1;j0,1,1;", 1, 1, 0);
        together("p9,9,9,0;p9,0,9,0;j0,0,1;j0,1,1;j0,3,1;", NONE, NONE, NONE, NONE);
    }

    private static void slow(DamOfTurf x, int c, int u, int m, int empty) {
        Check.same("slow(" + c + ", " + u + ", 0)", x.slow(c, u, 0), m);
        Check.same("slow(" + c + ", " + u + ", 1)", x.slow(c, u, 1), empty);
    }

    private static void slow() {
        // Full and without a flow, ten units go over for each inch; STONE lets some of it out.
        DamOfTurf x = Check.dam("c12,2;c12,3;b50,50;a10,0;f0,12;f11,0;");
        x.pass(10);
        Check.same("lake(1)", x.lake(1), 105);
        String was = Check.state(x);
        slow(x, 0, 999, 1, 12);
        slow(x, 0, 10, 1, 12);
        slow(x, 0, 9, 6, NONE);
        slow(x, 0, 8, 7, NONE);
        slow(x, 0, 0, 7, NONE);
        Check.same("state behind slow", Check.state(x), was);
        DamOfTurf y = Check.dam("c10,2;b50,50;a10,0;f0,10;");
        y.pass(10);
        slow(y, 0, 20, 1, 10);
        slow(y, 0, 19, NONE, NONE);
        DamOfTurf z = Check.dam("c10,2;b50,50;a10,0;f0,10;f11,0;");
        z.pass(10);
        slow(z, 0, 10, 1, 10);
        slow(z, 0, 9, NONE, NONE);
        // What goes over elsewhere counts as well.
        DamOfTurf w = Check.dam("c40,2;c5,2;b50,50;a10,0;f0,30;");
        // By m = 1 cell 0 would be the lowest in minute 36.
        slow(w, 0, 30, 2, NONE);
        slow(w, 0, 40, 1, 40);
        slow(w, 0, 29, NONE, NONE);
    }

    private static void slowTillEmpty() {
        // The lake is not empty yet in minute 1, nor counts that it is now.
        slow(Check.dam("c1,2;b50,50;a10,0;f0,10;"), 0, 10, 1, 1);
        slow(Check.dam("c2,2;b50,50;a10,0;f0,10;"), 0, 20, 1, 2);
        slow(Check.dam("c2,2;b50,50;a10,0;f0,10;"), 0, 19, NONE, NONE);
        slow(Check.dam("c9,2;b50,50;a10,0;"), 0, 0, 1, 1);
        // Thirty inches of water behind thirty of SLATE: ten units go over for each.
        DamOfTurf x = Check.dam("c30,2;b50,50;a10,0;f0,60;f6,0;");
        x.pass(5);
        slow(x, 0, 10, 1, 30);
        slow(x, 0, 0, NONE, NONE);
        DamOfTurf y = Check.dam("c20,2;b50,50;a10,0;f0,40;f6,0;");
        y.pass(5);
        slow(y, 0, 9, NONE, NONE);
        // Dug each ninth minute the cell is six inches lower behind the hour, each eighth seven.
        DamOfTurf z = Check.dam("c40,2;b50,50;a10,0;f0,34;f11,0;");
        z.pass(10);
        Check.same("34 inches", z.lake(0), 34);
        slow(z, 0, 0, 9, NONE);
        DamOfTurf w = Check.dam("c40,2;b50,50;a10,0;f0,33;f11,0;");
        w.pass(10);
        slow(w, 0, 0, 8, NONE);
        slow(w, 0, 10, 1, 40);
        // A worn cell is dug no more when it is at 0; digging is no breach.
        DamOfTurf v = Check.dam("c6,0;c9,2;b50,50;a10,0;f0,10;");
        slow(v, 0, 999, 1, 5);
        Check.same("blame() behind slow", v.blame(), NONE);
    }

    private static void slowBad() {
        DamOfTurf x = Check.dam(MUDDY);
        int[][] bad = {{-1, 0, 0}, {2, 0, 0}, {8, 0, 0}, {LEAST, 0, 0}, {GREATEST, 0, 0}, {0, -1, 0}, {0, 1000, 0},
                {0, LEAST, 0}, {0, GREATEST, 0}, {0, 0, -1}, {0, 0, 2}, {0, 0, LEAST}, {0, 0, GREATEST}};
        for (int[] p : bad) {
            Check.same("slow(" + p[0] + ", " + p[1] + ", " + p[2] + ")", x.slow(p[0], p[1], p[2]), BAD);
        }
    }

    private static void fill() {
        DamOfTurf x = Check.dam("c10,2;b50,50;a10,0;f0,10;");
        x.pass(5);
        String was = Check.state(x);
        Check.same("fill(1)", x.fill(1), 1);
        Check.same("fill(10)", x.fill(10), 10);
        Check.same("fill(11)", x.fill(11), NONE);
        for (int h : new int[] {0, 41, -1, LEAST, GREATEST}) {
            Check.same("fill(" + h + ")", x.fill(h), BAD);
        }
        Check.same("state behind fill", Check.state(x), was);
        Check.same("fill(40)", Check.dam("c40,2;b50,50;a10,0;f0,2;").fill(40), 200);
        DamOfTurf y = Check.dam("c40,2;b50,50;a20,0;f0,3;");
        Check.same("fill(30) in minute 200", y.fill(30), 200);
        Check.same("fill(31) in minute 207", y.fill(31), NONE);
        // Two inches at once, and the flow of the minutes to come.
        DamOfTurf z = Check.dam("c40,2;b50,50;a10,0;f0,0;f3,25;");
        Check.same("fill(1)", z.fill(1), 3);
        Check.same("fill(2)", z.fill(2), 3);
        Check.same("fill(3)", z.fill(3), 4);
        z.pass(3);
        Check.same("in minute 3, fill(2)", z.fill(2), 1);
        Check.same("fill(1) by nine a minute", Check.dam("c9,2;b50,50;a10,0;f0,9;").fill(1), 2);
        // What goes over is not there: 20 units come, 10 stay.
        Check.same("fill(2)", Check.dam("c1,2;b50,50;a10,0;f0,20;").fill(2), NONE);
        // What seeps is not there either.
        Check.same("fill(4) of stone", Check.dam("c9,3;b50,50;a10,0;f0,10;").fill(4), 5);
    }

    private static void trodden() {
        DamOfTurf x = Check.dam(MUDDY);
        String was = Check.state(x);
        Check.same("trodden(0, 1)", x.trodden(0, 1), 201);
        Check.same("trodden(0, 2)", x.trodden(0, 2), 392);
        Check.same("trodden(0, 9)", x.trodden(0, 9), 392);
        Check.same("trodden(1, 1)", x.trodden(1, 1), 200);
        int[][] bad = {{-1, 1}, {2, 1}, {8, 1}, {LEAST, 1}, {GREATEST, 1}, {0, 0}, {0, 10}, {0, -1}, {0, LEAST},
                {0, GREATEST}};
        for (int[] p : bad) {
            Check.same("trodden(" + p[0] + ", " + p[1] + ")", x.trodden(p[0], p[1]), BAD);
        }
        Check.same("state behind trodden", Check.state(x), was);
        x.pass(7);
        Check.same("in minute 7, trodden(0, 2)", x.trodden(0, 2), 201);
        x.pass(1);
        Check.same("trodden(0, 2) when none is to be gone", x.trodden(0, 2), NONE);
        // A cell of turf that is no longer the lowest lets one of mud be gone sooner.
        DamOfTurf y = Check.dam("c4,1;c6,0;b50,50;a1,0;f0,30;");
        Check.same("gone(0)", y.gone(0), 8);
        Check.same("trodden(0, 3) is sooner", y.trodden(0, 3), 195);
        // It stays of its STUFF.
        DamOfTurf z = Check.dam("c4,1;c20,2;b50,50;a1,0;f0,30;");
        Check.same("trodden(0, 2) of turf", z.trodden(0, 2), 204);
        DamOfTurf w = Check.dam("c38,0;c5,0;b50,50;a1,0;f0,60;");
        Check.same("trodden(0, 2)", w.trodden(0, 2), 200);
        Check.same("trodden(0, 3)", w.trodden(0, 3), NO);
        Check.same("trodden(0, 10)", w.trodden(0, 10), BAD);
        Check.same("NO ahead of NONE", Check.dam("c40,2;").trodden(0, 1), NO);
        Check.same("trodden(0, 1) of slate", Check.dam("c39,2;").trodden(0, 1), NONE);
        Check.same("none is gone in 201 minutes", Check.dam("c36,0;b50,50;a5,0;f4,1;").trodden(0, 1), NONE);
        Check.same("gone in 200 minutes, then not", Check.dam("c36,0;b50,50;a5,0;f3,1;").trodden(0, 1), 200);
    }
}
