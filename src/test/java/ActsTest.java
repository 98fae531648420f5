/** Promises 10 to 13 and 30 to 32: put, dig, pass, undo, keep, back, count. */
public final class ActsTest {
    private static final int BAD = DamOfTurf.BAD, NO = DamOfTurf.NO, FULL = DamOfTurf.FULL;
    private static final int LEAST = Integer.MIN_VALUE, GREATEST = Integer.MAX_VALUE;
    /** The lake rises an inch a minute to 5; MUD is worn to 3 in minute 6, to 1 in 7, to 0 in 8. */
    private static final String MUDDY = "c5,0;c6,2;a10,0;f0,10;b50,50;";

    public static void main(String[] args) {
        put();
        putRefused();
        dig();
        digRefused();
        pass();
        passWears();
        passRefused();
        fullOfActs();
        undo();
        keepAndBack();
        backRestoresWater();
        count();
        Check.end();
    }

    private static void put() {
        DamOfTurf x = Check.dam("c30,3;c0,1;b50,50;");
        Check.same("put(1, 2, 9)", x.put(1, 2, 9), 9);
        Check.same("cell(1, 1)", x.cell(1, 1), 2);
        Check.same("put(1, 0, 1)", x.put(1, 0, 1), 10);
        Check.same("cell(1, 0)", x.cell(1, 0), 10);
        Check.same("cell(1, 1)", x.cell(1, 1), 0);
        Check.same("cell(0, 1)", x.cell(0, 1), 3);
        Check.same("put(0, 1, 9)", x.put(0, 1, 9), 39);
        Check.same("put(0, 1, 2)", x.put(0, 1, 2), NO);
        Check.same("put(0, 1, 1)", x.put(0, 1, 1), 40);
        Check.same("put(0, 1, 1)", x.put(0, 1, 1), NO);
        Check.same("count(3)", x.count(3), 4);
    }

    private static void putRefused() {
        DamOfTurf x = Check.dam("c40,3;c0,1;b50,50;");
        String was = Check.state(x);
        int[][] bad = {{-1, 0, 1}, {2, 0, 1}, {8, 0, 1}, {LEAST, 0, 1}, {GREATEST, 0, 1}, {1, -1, 1}, {1, 4, 1},
                {1, 0, 0}, {1, 0, 10}, {1, 0, -3}, {1, 0, LEAST}, {1, 0, GREATEST}, {0, 4, 1}, {0, 0, 10}};
        for (int[] p : bad) {
            Check.same("put(" + p[0] + ", " + p[1] + ", " + p[2] + ")", x.put(p[0], p[1], p[2]), BAD);
        }
        Check.same("put(0, 0, 1)", x.put(0, 0, 1), NO);
        Check.same("state behind refused put", Check.state(x), was);
    }

    private static void dig() {
        DamOfTurf x = Check.dam("c12,3;c9,1;b50,50;");
        Check.same("dig(0, 9)", x.dig(0, 9), 3);
        Check.same("cell(0, 0)", x.cell(0, 0), 3);
        Check.same("cell(0, 1)", x.cell(0, 1), 3);
        Check.same("dig(0, 4)", x.dig(0, 4), NO);
        Check.same("dig(0, 3)", x.dig(0, 3), 0);
        Check.same("dig(0, 1)", x.dig(0, 1), NO);
        Check.same("cell(0, 2)", x.cell(0, 2), 0);
        Check.same("dig(1, 1)", x.dig(1, 1), 8);
        Check.same("cell(1, 1)", x.cell(1, 1), 1);
        Check.same("count(3)", x.count(3), 3);
        Check.same("blame()", x.blame(), DamOfTurf.NONE);
    }

    private static void digRefused() {
        DamOfTurf x = Check.dam("c12,3;c2,1;b50,50;");
        String was = Check.state(x);
        int[][] bad = {{-1, 1}, {2, 1}, {8, 1}, {LEAST, 1}, {GREATEST, 1}, {0, 0}, {0, 10}, {0, -1}, {0, LEAST},
                {0, GREATEST}, {1, 10}};
        for (int[] p : bad) {
            Check.same("dig(" + p[0] + ", " + p[1] + ")", x.dig(p[0], p[1]), BAD);
        }
        Check.same("dig(1, 3)", x.dig(1, 3), NO);
        Check.same("state behind refused dig", Check.state(x), was);
    }

    private static void pass() {
        DamOfTurf x = Check.dam("c20,2;a10,0;f0,10;f3,35;");
        Check.same("pass(1)", x.pass(1), 1);
        Check.same("lake(2)", x.lake(2), 1);
        Check.same("pass(2)", x.pass(2), 5);
        Check.same("lake(1)", x.lake(1), 55);
        Check.same("pass(60)", x.pass(60), 20);
        Check.same("lake(2)", x.lake(2), 63);
        Check.same("lake(1)", x.lake(1), 200);
        Check.same("lake(3)", x.lake(3), 55 + 60 * 35 - 200);
        Check.same("count(3)", x.count(3), 3);
    }

    private static void passWears() {
        DamOfTurf x = Check.dam(MUDDY);
        int[] level = {1, 2, 3, 4, 5, 5, 3, 1, 0, 0};
        int[] height = {5, 5, 5, 5, 5, 3, 1, 0, 0, 0};
        int[] over = {0, 0, 0, 0, 0, 10, 40, 70, 90, 100};
        for (int k = 0; k < level.length; k++) {
            Check.same("MUD: minute " + (k + 1), x.pass(1), level[k]);
            Check.same("MUD: cell(0, 0)", x.cell(0, 0), height[k]);
            Check.same("MUD: lake(3)", x.lake(3), over[k]);
            Check.same("MUD: cell(0, 2)", x.cell(0, 2), k >= 7 ? 1 : 0);
        }
        DamOfTurf y = Check.dam("c3,1;b50,50;a1,0;f0,5;");
        int[] turf = {3, 2, 2, 1, 1, 0, 0};
        for (int k = 0; k < turf.length; k++) {
            y.pass(1);
            Check.same("TURF: cell(0, 0) in minute " + (k + 1), y.cell(0, 0), turf[k]);
            Check.same("TURF: cell(0, 2)", y.cell(0, 2), k >= 5 ? 1 : 0);
        }
        for (int stuff = 2; stuff <= 3; stuff++) {
            DamOfTurf z = Check.dam("c3," + stuff + ";b50,50;a1,0;f0,50;");
            z.pass(60);
            Check.same("SLATE, STONE: cell(0, 0)", z.cell(0, 0), 3);
        }
        for (String banks : new String[] {"b2,9;", "b9,2;"}) {
            DamOfTurf w = Check.dam("c3,0;a1,0;f0,50;" + banks);
            w.pass(60);
            Check.same("a cell above the bank is not worn", w.cell(0, 0), 3);
            Check.same("all goes over at the bank", w.lake(3), 2998);
        }
        DamOfTurf v = Check.dam("c4,0;c4,0;b50,50;a1,0;f0,9;");
        v.pass(1);
        Check.same("of cells as high the first is worn", v.cell(0, 0) * 10 + v.cell(1, 0), 24);
        v.pass(1);
        Check.same("it alone goes on", v.cell(0, 0) * 10 + v.cell(1, 0), 4);
    }

    private static void passRefused() {
        DamOfTurf x = Check.dam("c20,2;f0,1;");
        String was = Check.state(x);
        for (int n : new int[] {0, 61, -1, LEAST, GREATEST}) {
            Check.same("pass(" + n + ")", x.pass(n), BAD);
        }
        Check.same("state behind BAD", Check.state(x), was);
        for (int k = 0; k < 16; k++) {
            x.pass(60);
        }
        Check.same("lake(2)", x.lake(2), 960);
        was = Check.state(x);
        Check.same("pass(40) at 960", x.pass(40), NO);
        Check.same("state behind NO", Check.state(x), was);
        Check.same("pass(39) at 960", x.pass(39), x.lake(0));
        Check.same("lake(2)", x.lake(2), 999);
        Check.same("pass(1) at 999", x.pass(1), NO);
        Check.same("pass(0) at 999", x.pass(0), BAD);
        Check.same("behind(200, 2) at 999", x.behind(200, 2), 200 - x.behind(200, 1) + x.lake(1));
        x.undo();
        Check.same("pass(39) behind undo", x.pass(39) >= 0 ? 1 : 0, 1);
    }

    private static void fullOfActs() {
        DamOfTurf x = Check.dam("c20,2;c40,2;c0,2;f0,1;");
        for (int k = 0; k < 10; k++) {
            x.put(0, 1, 1);
            x.dig(0, 1);
            x.pass(1);
        }
        Check.same("count(3)", x.count(3), 30);
        String was = Check.state(x);
        Check.same("put when full", x.put(0, 1, 1), FULL);
        Check.same("dig when full", x.dig(0, 1), FULL);
        Check.same("pass when full", x.pass(1), FULL);
        Check.same("NO ahead of FULL, put", x.put(1, 1, 1), NO);
        Check.same("NO ahead of FULL, dig", x.dig(2, 1), NO);
        Check.same("BAD ahead of FULL, put", x.put(3, 1, 1), BAD);
        Check.same("BAD ahead of FULL, dig", x.dig(0, 10), BAD);
        Check.same("BAD ahead of FULL, pass", x.pass(61), BAD);
        Check.same("state behind FULL", Check.state(x), was);
        Check.same("undo()", x.undo(), 29);
        Check.same("put when there is room again", x.put(0, 3, 1), 21);
        DamOfTurf y = Check.dam("c20,2;");
        for (int k = 0; k < 16; k++) {
            y.pass(60);
        }
        for (int k = 0; k < 14; k++) {
            y.put(0, 2, 1);
        }
        Check.same("NO ahead of FULL, pass", y.pass(40), NO);
        Check.same("pass(39) when full", y.pass(39), FULL);
    }

    private static void undo() {
        DamOfTurf x = Check.dam(MUDDY);
        Check.same("undo() of nothing", x.undo(), NO);
        x.put(0, 0, 2);
        String first = Check.state(x);
        x.dig(1, 3);
        String second = Check.state(x);
        x.pass(60);
        Check.same("undo() of pass", x.undo(), 2);
        Check.same("state behind undo of pass", Check.state(x), second);
        Check.same("undo() of dig", x.undo(), 1);
        Check.same("state behind undo of dig", Check.state(x), first);
        Check.same("undo() of put", x.undo(), 0);
        Check.same("cell(0, 0)", x.cell(0, 0), 5);
        Check.same("undo() again", x.undo(), NO);
        // A stuff laid over another comes back, as do a breach and the water.
        DamOfTurf y = Check.dam(MUDDY);
        y.pass(8);
        y.put(0, 3, 4);
        y.pass(9);
        Check.same("undo()", y.undo(), 2);
        Check.same("undo()", y.undo(), 1);
        Check.same("cell(0, 1)", y.cell(0, 1), 0);
        Check.same("cell(0, 2)", y.cell(0, 2), 1);
        Check.same("lake(1)", y.lake(1), 10);
        Check.same("undo()", y.undo(), 0);
        Check.same("cell(0, 2)", y.cell(0, 2), 0);
        Check.same("lake(1)", y.lake(1), 0);
        Check.same("lake(3)", y.lake(3), 0);
    }

    private static void keepAndBack() {
        DamOfTurf x = Check.dam(MUDDY);
        Check.same("back() of nothing", x.back(), NO);
        Check.same("keep() of no acts", x.keep(), 1);
        x.put(0, 1, 2);
        x.pass(3);
        String two = Check.state(x);
        Check.same("keep() of two acts", x.keep(), 2);
        x.undo();
        x.dig(0, 5);
        Check.same("keep() when two are", x.keep(), FULL);
        Check.same("count(5)", x.count(5), 2);
        Check.same("back()", x.back(), 1);
        Check.same("count(3)", x.count(3), 2);
        Check.same("state behind back", Check.state(x), two);
        Check.same("keep() again", x.keep(), 2);
        Check.same("back() to the same", x.back(), 1);
        Check.same("state behind back again", Check.state(x), two);
        Check.same("back() to no acts", x.back(), 0);
        Check.same("count(3)", x.count(3), 0);
        Check.same("lake(2)", x.lake(2), 0);
        Check.same("cell(0, 0)", x.cell(0, 0), 5);
        Check.same("back() of nothing again", x.back(), NO);
        // What is SEEN and THE TEXT are no acts.
        x.keep();
        x.seen(3, 3);
        x.write('c');
        x.back();
        Check.same("count(4) behind back", x.count(4), 1);
        Check.same("count(6) behind back", x.count(6), MUDDY.length() + 1);
        // What is kept stays as it was, whatever is done then.
        DamOfTurf y = Check.dam(MUDDY);
        y.pass(4);
        y.keep();
        y.undo();
        y.put(0, 2, 9);
        y.put(0, 2, 9);
        y.back();
        Check.same("lake(1)", y.lake(1), 40);
        Check.same("cell(0, 0)", y.cell(0, 0), 5);
        Check.same("undo() behind back", y.undo(), 0);
        DamOfTurf z = Check.dam(MUDDY);
        z.put(1, 3, 4);
        z.dig(0, 1);
        z.keep();
        z.undo();
        z.undo();
        z.put(0, 1, 7);
        z.dig(1, 2);
        z.back();
        Check.same("what was laid where, behind back", z.cell(1, 0) * 10 + z.cell(1, 1), 103);
        Check.same("what was dug where, behind back", z.cell(0, 0) * 10 + z.cell(0, 1), 40);
    }

    private static void backRestoresWater() {
        DamOfTurf x = Check.dam(MUDDY);
        x.pass(8);
        x.keep();
        x.put(0, 2, 5);
        x.pass(60);
        x.back();
        Check.same("lake(0)", x.lake(0), 1);
        Check.same("lake(2)", x.lake(2), 8);
        Check.same("lake(3)", x.lake(3), 70);
        Check.same("cell(0, 0)", x.cell(0, 0), 0);
        Check.same("cell(0, 1)", x.cell(0, 1), 0);
        Check.same("cell(0, 2)", x.cell(0, 2), 1);
        Check.same("blame()", x.blame(), 0);
    }

    private static void count() {
        DamOfTurf x = Check.dam("c5,0;c6,2;c7,2;p1,1,1,1;p2,2,2,2;j0,0,1;j0,0,2;j0,0,3;j0,0,4;");
        x.pass(1);
        x.seen(1, 1);
        x.seen(1, 2);
        x.seen(1, 3);
        x.keep();
        x.write('?');
        int[] due = {3, 2, 4, 1, 3, 1, 62};
        for (int what = 0; what < due.length; what++) {
            Check.same("count(" + what + ")", x.count(what), due[what]);
        }
        for (int what : new int[] {-1, 7, LEAST, GREATEST}) {
            Check.same("count(" + what + ")", x.count(what), BAD);
        }
        x.wipe();
        Check.same("count(0) behind wipe", x.count(0), 3);
        Check.same("count(6) behind wipe", x.count(6), 0);
    }
}
