/** Promises 24 to 29: blame, seen, forget, flows, odds, night. */
public final class WasTest {
    private static final int BAD = DamOfTurf.BAD, FULL = DamOfTurf.FULL, NONE = DamOfTurf.NONE;
    private static final int LEAST = Integer.MIN_VALUE, GREATEST = Integer.MAX_VALUE;
    /** The lake rises an inch a minute to 5; MUD is worn to 3 in minute 6, to 1 in 7, to 0 in 8. */
    private static final String MUDDY = "c5,0;c6,2;a10,0;f0,10;b50,50;";

    public static void main(String[] args) {
        blameOfMinutes();
        blameOfDig();
        blameOfPut();
        blameOfWhatCanNotBeDoneAgain();
        blameNone();
        seen();
        forget();
        flows();
        flowsOfHighLevels();
        odds();
        oddsInLowestTerms();
        oddsBad();
        night();
        nightBreaches();
        nightBad();
        Check.end();
    }

    private static void blameOfMinutes() {
        DamOfTurf x = Check.dam(MUDDY);
        x.put(1, 2, 1);
        x.pass(4);
        x.pass(3);
        Check.same("blame() in minute 7", x.blame(), NONE);
        x.pass(1);
        String was = Check.state(x);
        Check.same("blame() in minute 8", x.blame(), 1);
        Check.same("state behind blame", Check.state(x), was);
        x.pass(1);
        Check.same("blame() in minute 9", x.blame(), 1);
        x.pass(3);
        Check.same("blame() in minute 12", x.blame(), NONE);
        x.undo();
        Check.same("blame() behind undo", x.blame(), 1);
        x.undo();
        x.undo();
        Check.same("blame() behind undo of the breach", x.blame(), NONE);
        // It is blamed though the cell is high again.
        x.pass(1);
        x.put(0, 0, 9);
        Check.same("blame() behind put", x.blame(), 1);
    }

    private static void blameOfDig() {
        DamOfTurf x = Check.dam("c8,0;c6,2;b50,50;a10,0;f0,10;");
        x.pass(3);
        x.dig(0, 3);
        x.pass(8);
        Check.same("cell(0, 2)", x.cell(0, 2), 1);
        Check.same("blame()", x.blame(), 1);
        x.pass(9);
        Check.same("blame() later", x.blame(), 1);
    }

    private static void blameOfPut() {
        DamOfTurf x = Check.dam("c4,2;c9,2;b50,50;a10,0;f0,10;");
        x.pass(9);
        x.pass(9);
        x.put(1, 2, 3);
        x.put(0, 0, 3);
        x.pass(20);
        Check.same("cell(0, 2)", x.cell(0, 2), 1);
        Check.same("blame()", x.blame(), 3);
    }

    private static void blameOfWhatCanNotBeDoneAgain() {
        // Without the dig there is no room to lay the MUD, none of it is laid then.
        DamOfTurf x = Check.dam("c36,2;c40,2;b50,50;a1,0;f0,60;");
        x.dig(0, 9);
        x.put(0, 0, 9);
        x.pass(30);
        Check.same("cell(0, 2)", x.cell(0, 2), 1);
        Check.same("blame()", x.blame(), 0);
        // Without what was laid there is not so much to dig, none of it is dug then.
        DamOfTurf y = Check.dam("c6,0;c5,2;b50,50;a1,0;f0,60;");
        y.put(0, 0, 2);
        y.dig(0, 7);
        y.pass(30);
        Check.same("cell(0, 2)", y.cell(0, 2), 1);
        Check.same("blame()", y.blame(), 0);
    }

    private static void blameNone() {
        DamOfTurf x = Check.dam(MUDDY);
        Check.same("blame() without acts", x.blame(), NONE);
        x.dig(0, 5);
        x.pass(20);
        Check.same("blame() of what was dug away", x.blame(), NONE);
        DamOfTurf y = Check.dam(MUDDY);
        y.pass(8);
        y.pass(8);
        Check.same("blame() by none", y.blame(), NONE);
        y.undo();
        Check.same("blame() by the one", y.blame(), 0);
    }

    private static void seen() {
        DamOfTurf x = Check.dam(MUDDY);
        for (int[] p : new int[][] {{-1, 1}, {61, 1}, {LEAST, 1}, {GREATEST, 1}, {0, 0}, {0, 100}, {0, -1}, {0, LEAST},
                {0, GREATEST}}) {
            Check.same("seen(" + p[0] + ", " + p[1] + ")", x.seen(p[0], p[1]), BAD);
        }
        Check.same("count(4)", x.count(4), 0);
        Check.same("flows() behind BAD", x.flows(), Check.allFlows());
        int[][] seen = {{0, 1}, {60, 99}, {60, 1}, {0, 99}, {1, 1}, {1, 1}, {5, 5}, {6, 6}};
        for (int k = 0; k < seen.length; k++) {
            Check.same("seen number " + (k + 1), x.seen(seen[k][0], seen[k][1]), k + 1);
        }
        Check.same("seen number 9", x.seen(1, 1), FULL);
        Check.same("BAD ahead of FULL", x.seen(61, 1), BAD);
        Check.same("count(4) when full", x.count(4), 8);
    }

    private static void forget() {
        DamOfTurf x = Check.dam(MUDDY);
        Check.same("forget() of nothing", x.forget(), 0);
        x.seen(1, 1);
        x.seen(2, 1);
        Check.same("flows() of what can not be", x.flows(), 0);
        Check.same("forget()", x.forget(), 2);
        Check.same("count(4)", x.count(4), 0);
        Check.same("flows()", x.flows(), Check.allFlows());
        Check.same("forget() again", x.forget(), 0);
        Check.same("seen() again", x.seen(1, 1), 1);
        for (int k = 2; k <= 8; k++) {
            x.seen(1, 1);
        }
        Check.same("forget() of eight", x.forget(), 8);
        Check.same("seen() behind it", x.seen(2, 1), 1);
        Check.same("flows() behind it", x.flows(), bits(20, 29));
    }

    private static int bits(int least, int greatest) {
        int all = 0;
        for (int k = least; k <= greatest; k++) {
            all |= 1 << k;
        }
        return all;
    }

    private static void flows() {
        // Ten units an inch, whatever the cells, banks and the flow that is told.
        DamOfTurf x = Check.dam("c1,3;c2,1;b0,0;a10,0;f0,50;r0,99,30;");
        x.pass(10);
        x.seen(2, 1);
        Check.same("flows() of 2 in a minute", x.flows(), bits(20, 29));
        x.seen(5, 2);
        Check.same("flows() of 5 in two", x.flows(), bits(25, 29));
        x.seen(26, 10);
        Check.same("flows() of 26 in ten", x.flows(), bits(26, 26));
        x.seen(2, 1);
        Check.same("flows() of the same again", x.flows(), bits(26, 26));
        x.seen(0, 1);
        Check.same("flows() of what can not be", x.flows(), 0);
        DamOfTurf y = Check.dam("c1,3;a6,1;");
        y.seen(0, 1);
        Check.same("flows() of 0 in a minute", y.flows(), bits(0, 6));
        y.seen(0, 9);
        Check.same("flows() of 0 in nine", y.flows(), bits(0, 0));
        y.forget();
        y.seen(3, 1);
        Check.same("flows() of 3 in a minute", y.flows(), bits(24, 30));
        y.undo();
        Check.same("flows() behind undo", y.flows(), bits(24, 30));
        // By the lake that is laid.
        y.wipe();
        Check.type(y, "c1,0;a5,5;");
        y.laid();
        y.seen(2, 1);
        Check.same("flows() of 10 and 15", y.flows(), bits(25, 30));
    }

    private static void flowsOfHighLevels() {
        DamOfTurf x = Check.dam("c1,0;a1,0;");
        x.seen(60, 2);
        Check.same("flows() of 60 in two", x.flows(), bits(30, 30));
        x.forget();
        x.seen(60, 99);
        Check.same("flows() of 60 in 99: it is no higher by more", x.flows(), bits(1, 30));
        x.forget();
        x.seen(59, 99);
        Check.same("flows() of 59 in 99", x.flows(), 0);
    }

    private static void odds(DamOfTurf x, int n, int a, int chance, int above, int below) {
        String name = "odds(" + n + ", " + a + ", " + chance + ", ";
        Check.same(name + "0)", x.odds(n, a, chance, 0), above);
        Check.same(name + "1)", x.odds(n, a, chance, 1), below);
    }

    private static void odds() {
        DamOfTurf x = Check.dam("c5,0;c6,2;a10,0;b50,50;");
        String was = Check.state(x);
        odds(x, 0, 10, 5, 1, 1);
        odds(x, 1, 10, 0, 1, 1);
        odds(x, 1, 10, 10, 0, 1);
        odds(x, 1, 10, 3, 7, 10);
        odds(x, 1, 10, 7, 3, 10);
        odds(x, 1, 0, 10, 1, 1);
        // Four units a minute come to the edge in two times ten minutes of rain, not in one.
        odds(x, 1, 4, 10, 1, 1);
        odds(x, 2, 4, 3, 91, 100);
        // By a rain in the first ten minutes alone, in the second alone, in both: all the same.
        odds(x, 2, 10, 3, 49, 100);
        odds(x, 5, 10, 1, 59049, 100000);
        Check.same("state behind odds", Check.state(x), was);
        // Seven units a minute are over the edge in the eighth, six in the ninth: too late.
        odds(x, 1, 7, 9, 1, 10);
        odds(x, 1, 6, 9, 1, 1);
        // What comes by the text comes as well; what has gone by is past.
        DamOfTurf z = Check.dam(MUDDY);
        odds(z, 1, 0, 5, 0, 1);
        z.pass(8);
        odds(z, 5, 30, 5, 1, 1);
        z.put(0, 0, 2);
        odds(z, 1, 0, 5, 0, 1);
        z.put(0, 2, 2);
        odds(z, 5, 30, 10, 1, 1);
        // A rain in the first ten minutes brings it to the edge sooner than one in the second.
        DamOfTurf w = Check.dam("c5,0;c6,2;a10,0;b50,50;r11,20,4;");
        odds(w, 2, 2, 3, 7, 10);
        w.pass(10);
        odds(w, 1, 2, 10, 1, 1);
    }

    private static void oddsInLowestTerms() {
        DamOfTurf x = Check.dam("c5,0;c6,2;a10,0;b50,50;");
        odds(x, 1, 10, 5, 1, 2);
        odds(x, 1, 10, 4, 3, 5);
        odds(x, 2, 10, 5, 1, 4);
        odds(x, 2, 10, 4, 9, 25);
        odds(x, 2, 4, 5, 3, 4);
        odds(x, 2, 4, 2, 24, 25);
        odds(x, 5, 10, 5, 1, 32);
        odds(x, 5, 10, 10, 0, 1);
        odds(x, 5, 10, 0, 1, 1);
        odds(x, 3, 10, 6, 8, 125);
    }

    private static void oddsBad() {
        DamOfTurf x = Check.dam(MUDDY);
        int[][] bad = {{-1, 0, 0, 0}, {6, 0, 0, 0}, {LEAST, 0, 0, 0}, {GREATEST, 0, 0, 0}, {1, -1, 0, 0}, {1, 31, 0, 0},
                {1, LEAST, 0, 0}, {1, GREATEST, 0, 0}, {1, 0, -1, 0}, {1, 0, 11, 0}, {1, 0, LEAST, 0},
                {1, 0, GREATEST, 0}, {1, 0, 0, -1}, {1, 0, 0, 2}, {1, 0, 0, LEAST}, {1, 0, 0, GREATEST}};
        for (int[] p : bad) {
            Check.same("odds(" + p[0] + ", " + p[1] + ", " + p[2] + ", " + p[3] + ")", x.odds(p[0], p[1], p[2], p[3]),
                    BAD);
        }
        odds(x, 5, 30, 10, 0, 1);
    }

    private static void night() {
        DamOfTurf x = Check.dam("c40,2;b50,50;a20,5;");
        String was = Check.state(x);
        int[] by = {0, 1, 5, 777, 9999};
        int[] units = {489, 411, 437, 442, 448};
        for (int k = 0; k < by.length; k++) {
            Check.same("night(" + by[k] + ", 0)", x.night(by[k], 0), units[k]);
            Check.same("night(" + by[k] + ", 1)", x.night(by[k], 1), 0);
        }
        Check.same("state behind night", Check.state(x), was);
        // By minutes from now on, not from the beginning; what is there stays, what flows comes as well.
        DamOfTurf y = Check.dam("c40,2;b50,50;a20,5;f0,3;");
        y.pass(7);
        Check.same("night(0, 0) behind 7 minutes", y.night(0, 0), 489 + 201);
        // In the first minutes by 0 there come 15, 11, 7, 2, 11 units, in the last one 11: those go over.
        DamOfTurf z = Check.dam("c3,2;b50,50;a10,0;");
        Check.same("night(0, 0) by a low dam", z.night(0, 0), 30);
        DamOfTurf w = Check.dam("c9,2;c9,3;b50,50;a10,0;");
        Check.same("night(1, 0) with seeping", w.night(1, 0), 90);
    }

    private static void nightBreaches() {
        Check.same("night(0, 1) of an inch of MUD", Check.dam("c1,0;b50,50;a20,0;").night(0, 1), 1);
        Check.same("night(0, 0) of an inch of MUD", Check.dam("c1,0;b50,50;a20,0;").night(0, 0), 0);
        Check.same("night(0, 1) of 39 inches", Check.dam("c39,0;b50,50;a20,5;").night(0, 1), 0);
        DamOfTurf x = Check.dam(MUDDY);
        x.pass(8);
        Check.same("night(0, 1) behind a breach", x.night(0, 1), 0);
        x.put(0, 0, 1);
        Check.same("night(0, 1) of the next breach", x.night(0, 1), 1);
        // 24 inches of 20 units take 480 of the 489 that come by 0, of the 411 by 1.
        DamOfTurf y = Check.dam("c24,0;b50,50;a20,0;");
        Check.same("night(0, 0) when it goes over in the last minute", y.night(0, 0), 480);
        Check.same("night(0, 1) when it goes over in the last minute", y.night(0, 1), 0);
        Check.same("night(1, 0) when it does not", y.night(1, 0), 411);
    }

    private static void nightBad() {
        DamOfTurf x = Check.dam(MUDDY);
        for (int z : new int[] {-1, 10000, LEAST, GREATEST}) {
            Check.same("night(" + z + ", 0)", x.night(z, 0), BAD);
        }
        for (int what : new int[] {-1, 2, LEAST, GREATEST}) {
            Check.same("night(0, " + what + ")", x.night(0, what), BAD);
        }
    }
}
