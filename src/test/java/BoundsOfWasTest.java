import java.math.BigInteger;

/**
 * Boundary cases of "4 BLAME: ..", SEEN, FLOWS, ODDS and A NIGHT, as promises 24 to 29 answer. Each method is one
 * sentence of the document.
 */
public final class BoundsOfWasTest {
    private static final int FULL = DamOfTurf.FULL, NONE = DamOfTurf.NONE;
    /** The lake rises an inch a minute to 5; MUD is worn to 3 in minute 6, to 1 in 7, to 0 in 8. */
    private static final String MUDDY = "c5,0;c6,2;a10,0;f0,10;b50,50;";

    public static void main(String[] args) {
        blameNoneWasBreached();
        blameOfTheFirstAct();
        blameOfTheLastOfThirty();
        blameOfTheFirstOfSeveral();
        blameByNone();
        blameOfEachCell();
        blameDoesThoseBehindAgain();
        blameLaysAsFarAsCanBe();
        blameDigsAsFarAsCanBe();
        seenAre8();
        seenOf0To60Behind1To99();
        forgetAll();
        seenStays();
        flowsAre0To30();
        flowsByTheLevel();
        flowsFromNoWaterGoingNowhere();
        flowsByAllThatWasSeen();
        oddsOfEachNumber();
        oddsOfNoTime();
        oddsToTheLastOfTenMinutes();
        oddsToTheLastOfFifty();
        oddsOfUnitsMoreInAllTen();
        oddsByTheChance();
        oddsFromNowOn();
        oddsInThemAlone();
        nightBy0To9999();
        nightByDraws();
        nightOf60Minutes();
        nightFromNowOn();
        nightTellsCells();
        Check.end();
    }

    /** "some CELL having been BREACHED", "none (no CELL was ..)" */
    private static void blameNoneWasBreached() {
        DamOfTurf x = Check.dam(MUDDY);
        Check.same("blame() of no ACTS", x.blame(), NONE);
        x.pass(7);
        Check.same("blame() of an inch", x.blame(), NONE);
        x.pass(1);
        Check.same("blame() of none", x.blame(), 0);
        x.undo();
        Check.same("blame() behind undo", x.blame(), NONE);
        x.dig(0, 1);
        x.pass(60);
        Check.same("blame() of what was dug to 0", x.blame(), NONE);
        DamOfTurf y = Check.dam("c0,0;b50,50;a1,0;f0,60;");
        y.pass(60);
        Check.same("blame() of what was 0 at first", y.blame(), NONE);
        DamOfTurf z = Check.dam("c40,2;b50,50;");
        for (int k = 0; k < 30; k++) {
            z.pass(1);
        }
        Check.same("blame() of thirty ACTS", z.blame(), NONE);
    }

    /** The first is 0, as CELLS, CHILDREN and JOBS are told from 0. */
    private static void blameOfTheFirstAct() {
        DamOfTurf x = Check.dam(MUDDY);
        x.pass(8);
        Check.same("blame() of one", x.blame(), 0);
        for (int k = 1; k < 30; k++) {
            x.put(1, 2, 1);
        }
        Check.same("count(3)", x.count(3), 30);
        Check.same("blame() of thirty", x.blame(), 0);
    }

    private static void blameOfTheLastOfThirty() {
        DamOfTurf x = Check.dam(MUDDY);
        for (int k = 0; k < 29; k++) {
            if (k % 2 == 0) {
                x.put(1, 2, 1);
            } else {
                x.dig(1, 1);
            }
        }
        x.pass(8);
        Check.same("count(3)", x.count(3), 30);
        Check.same("blame()", x.blame(), 29);
    }

    /** "the first ACT without which .. none would have been" */
    private static void blameOfTheFirstOfSeveral() {
        DamOfTurf x = Check.dam(MUDDY);
        x.put(1, 2, 1);
        for (int k = 0; k < 8; k++) {
            x.pass(1);
        }
        Check.same("each of eight minutes", x.blame(), 1);
        x.pass(1);
        Check.same("no one of nine minutes", x.blame(), NONE);
        DamOfTurf y = Check.dam(MUDDY);
        y.pass(1);
        y.pass(7);
        y.pass(1);
        Check.same("seven of nine: not the first, nor the last", y.blame(), 1);
    }

    /** "none (.. by none)" */
    private static void blameByNone() {
        DamOfTurf x = Check.dam(MUDDY);
        x.pass(8);
        x.pass(7);
        Check.same("eight and seven", x.blame(), 0);
        x.undo();
        x.pass(8);
        Check.same("eight and eight", x.blame(), NONE);
        // A second CELL is BREACHED by what is laid on the first: no ACT is to blame for both.
        DamOfTurf y = Check.dam("c2,0;c4,0;b50,50;a1,0;f0,60;");
        y.pass(1);
        Check.same("by the first", y.blame(), 0);
        y.put(0, 2, 9);
        y.pass(2);
        Check.same("cell 0 and cell 1", y.cell(0, 2) * 10 + y.cell(1, 2), 11);
        Check.same("both", y.blame(), NONE);
    }

    /** "some CELL" */
    private static void blameOfEachCell() {
        for (int c = 0; c < 8; c++) {
            DamOfTurf x = Check.dam("c9,2;".repeat(c) + "c8,0;" + "c9,2;".repeat(7 - c) + "b50,50;a1,0;f0,60;");
            x.dig((c + 1) % 8, 1);
            x.pass(3);
            Check.same("not yet", x.blame(), NONE);
            x.pass(4);
            int due = c == 7 ? NONE : 2;
            Check.same("cell " + c, x.blame(), due);
            Check.same("cell " + c + " was breached", x.cell(c, 2), c == 7 ? 0 : 1);
        }
    }

    /** "those behind it done again": in the minutes that have not gone by then. */
    private static void blameDoesThoseBehindAgain() {
        DamOfTurf x = Check.dam("c5,0;c40,2;b50,50;a10,0;f11,60;");
        x.pass(10);
        x.pass(10);
        Check.same("breached by what comes from minute 11 on", x.cell(0, 2), 1);
        Check.same("the ten minutes ahead", x.blame(), 0);
        DamOfTurf y = Check.dam("c5,0;c40,2;b50,50;a10,0;f0,60;f11,0;");
        y.pass(10);
        y.pass(10);
        Check.same("by what comes to minute 10", y.blame(), NONE);
        // TURF of an inch is worn in even minutes alone: without one of them it is minute 1.
        DamOfTurf z = Check.dam("c1,1;b50,50;a1,0;f0,60;");
        z.pass(1);
        z.pass(1);
        Check.same("in minute 2", z.blame(), 0);
        // What is laid ahead is laid again, of its STUFF, and keeps the CELL.
        DamOfTurf w = Check.dam("c1,2;c40,2;b50,50;a1,0;f0,60;");
        w.put(0, 0, 1);
        w.put(0, 2, 1);
        w.put(0, 0, 1);
        w.pass(2);
        Check.same("the last that was laid of MUD", w.blame(), 2);
    }

    /** "as far as they can be": to 40 inches it is laid, to 41 it is not. */
    private static void blameLaysAsFarAsCanBe() {
        for (int h = 31; h <= 32; h++) {
            DamOfTurf x = Check.dam("c" + h + ",2;c40,2;b50,50;a1,0;f0,60;");
            x.dig(0, 9);
            x.put(0, 0, 9);
            x.pass(30);
            Check.same("MUD of " + h + " is breached", x.cell(0, 2), 1);
            Check.same("blame() of " + h, x.blame(), h == 31 ? 1 : 0);
        }
    }

    /** As many inches as there are can be dug, one more can not. */
    private static void blameDigsAsFarAsCanBe() {
        for (int h = 8; h <= 9; h++) {
            DamOfTurf x = Check.dam("c" + h + ",2;c2,0;b50,50;a1,0;f0,60;");
            x.put(0, 2, 9);
            x.dig(0, 9);
            x.pass(1);
            Check.same("MUD beside " + h + " is breached", x.cell(1, 2), 1);
            Check.same("blame() of " + h, x.blame(), h == 9 ? 0 : 2);
        }
    }

    /** "SEEN (8 at most)", "how many. BAD; FULL." */
    private static void seenAre8() {
        DamOfTurf x = Check.dam("c9,2;a1,0;");
        for (int k = 1; k <= 8; k++) {
            Check.same("seen number " + k, x.seen(k == 8 ? 20 : 60, k == 8 ? 1 : 99), k);
            Check.same("count(4)", x.count(4), k);
        }
        Check.same("the eighth counts", x.flows(), 1 << 20);
        Check.same("seen number 9", x.seen(21, 1), FULL);
        Check.same("the ninth does not", x.flows(), 1 << 20);
        Check.same("forget()", x.forget(), 8);
        Check.same("room for one", x.seen(21, 1), 1);
        Check.same("the eight do not count", x.flows(), 1 << 21);
    }

    /** "the LEVEL was h (0 to 60) behind n minutes (1 to 99)" */
    private static void seenOf0To60Behind1To99() {
        Check.range("inches seen", 0, 60, h -> Check.dam("c9,2;").seen(h, 1));
        Check.range("minutes seen", 1, 99, n -> Check.dam("c9,2;").seen(0, n));
    }

    /** "Nothing is SEEN: how many were." */
    private static void forgetAll() {
        for (int k = 0; k <= 8; k++) {
            DamOfTurf x = Check.dam("c9,2;");
            for (int n = 0; n < k; n++) {
                x.seen(60, 1);
            }
            Check.same("flows() of " + k, x.flows(), k == 0 ? Check.allFlows() : 0);
            Check.same("forget() of " + k, x.forget(), k);
            Check.same("count(4)", x.count(4), 0);
            Check.same("flows()", x.flows(), Check.allFlows());
            Check.same("forget() again", x.forget(), 0);
        }
    }

    /** What is SEEN is no ACT, nor is it KEPT. */
    private static void seenStays() {
        DamOfTurf x = Check.dam(MUDDY);
        x.keep();
        x.pass(8);
        x.seen(3, 1);
        x.undo();
        Check.same("behind undo", x.count(4), 1);
        x.back();
        Check.same("behind back", x.count(4), 1);
        Check.same("flows()", x.flows(), 1 << 30);
        x.wipe();
        Check.same("behind wipe", x.count(4), 1);
        Check.same("no text is laid", x.laid(), DamOfTurf.NO);
        Check.same("behind a laid that is refused", x.count(4), 1);
        Check.type(x, "c1,0;");
        x.laid();
        Check.same("behind laid", x.count(4), 0);
    }

    /** "FLOWS: those of 0 to 30 (bits)" */
    private static void flowsAre0To30() {
        DamOfTurf x = Check.dam("c9,2;a1,0;");
        Check.same("flows() of nothing", x.flows(), Check.allFlows());
        for (int flow = 0; flow <= 31; flow++) {
            x.seen(flow, 1);
            Check.same("flows() of " + flow, x.flows(), flow == 31 ? 0 : 1 << flow);
            x.forget();
        }
        x.seen(0, 99);
        Check.same("flows() of 0 in 99", x.flows(), 1);
        x.forget();
        x.seen(60, 2);
        Check.same("flows() of 60 in 2", x.flows(), 1 << 30);
    }

    /** "the LEVEL": the greatest that takes no more, 60 at most. */
    private static void flowsByTheLevel() {
        DamOfTurf x = Check.dam("c9,2;a20,5;");
        int[][] seen = {{0, 1}, {1, 1}, {2, 1}, {0, 99}, {30, 99}, {29, 99}, {31, 99}, {60, 99}};
        int[] due = {(1 << 25) - 1, 63 << 25, 0, 1, 1 << 30, 3 << 28, 0, 0};
        // 30 inches take 2925 of 2970; 29 take 2755 of 2871, and of 2772.
        for (int k = 0; k < due.length; k++) {
            x.seen(seen[k][0], seen[k][1]);
            Check.same("flows() of " + seen[k][0] + " in " + seen[k][1], x.flows(), due[k]);
            x.forget();
        }
        DamOfTurf y = Check.dam("c9,2;a1,0;");
        y.seen(60, 99);
        Check.same("flows() of 60 or more", y.flows(), Check.allFlows() - 1);
        DamOfTurf z = Check.dam("c9,2;a1,0;");
        z.seen(59, 59);
        Check.same("flows() of 59 in 59", z.flows(), 2);
        z.seen(60, 61);
        Check.same("flows() of 60 in 61", z.flows(), 2);
    }

    /** "from no water at first, by a constant flow alone, no water going anywhere" */
    private static void flowsFromNoWaterGoingNowhere() {
        DamOfTurf x = Check.dam("c0,3;c0,0;c1,1;b0,0;a1,0;f0,60;r0,99,30;");
        x.seen(40, 2);
        Check.same("above EDGE", x.flows(), 1 << 20);
        x.pass(60);
        Check.same("behind an hour", x.flows(), 1 << 20);
        DamOfTurf y = Check.dam("c40,3;c40,1;b50,50;a1,0;f0,60;");
        y.pass(3);
        y.seen(40, 2);
        Check.same("of what seeps nothing seeps", y.flows(), 1 << 20);
    }

    /** "by which all that was SEEN is so" */
    private static void flowsByAllThatWasSeen() {
        DamOfTurf x = Check.dam("c9,2;a10,0;");
        x.seen(2, 1);
        Check.same("20 to 29", x.flows(), 1023 << 20);
        x.seen(4, 2);
        Check.same("20 to 24", x.flows(), 31 << 20);
        x.seen(6, 3);
        Check.same("20 to 23", x.flows(), 15 << 20);
        x.seen(20, 9);
        Check.same("23", x.flows(), 1 << 23);
        x.seen(20, 9);
        Check.same("23 once more", x.flows(), 1 << 23);
        x.seen(3, 1);
        Check.same("none", x.flows(), 0);
    }

    private static void odds(DamOfTurf x, int n, int a, int chance, int above, int below) {
        String name = "odds(" + n + ", " + a + ", " + chance + ", ";
        Check.same(name + "0)", x.odds(n, a, chance, 0), above);
        Check.same(name + "1)", x.odds(n, a, chance, 1), below);
    }

    /** "(n 0 to 5)", "a UNITS (0 to 30)", "x (0 to 10)", "above (part = 0), below (1). BAD." */
    private static void oddsOfEachNumber() {
        for (int part = 0; part <= 1; part++) {
            int asked = part;
            Check.range("n of odds", 0, 5, n -> Check.dam("c9,2;").odds(n, 1, 1, asked));
            Check.range("a of odds", 0, 30, a -> Check.dam("c9,2;").odds(1, a, 1, asked));
            Check.range("x of odds", 0, 10, x -> Check.dam("c9,2;").odds(1, 1, x, asked));
        }
        Check.range("part of odds", 0, 1, part -> Check.dam("c9,2;").odds(1, 1, 1, part));
        DamOfTurf x = Check.dam("c1,0;b50,50;a20,5;");
        odds(x, 5, 30, 10, 0, 1);
        odds(x, 5, 0, 10, 1, 1);
        odds(x, 5, 30, 0, 1, 1);
        odds(x, 5, 30, 9, 1, 100000);
        // A unit in each of ten minutes are not 25, two times ten neither, three times are.
        odds(x, 2, 1, 10, 1, 1);
        odds(x, 3, 1, 10, 0, 1);
    }

    private static void oddsOfNoTime() {
        DamOfTurf x = Check.dam("c1,0;b50,50;a1,0;f0,60;");
        Check.same("gone in the next minute", x.gone(0), 1);
        for (int chance = 0; chance <= 10; chance += 5) {
            odds(x, 0, 30, chance, 1, 1);
            odds(x, 1, 0, chance, 0, 1);
        }
    }

    /** "in each of the next n times ten minutes": a breach in minute 10 counts, one in minute 11 does not. */
    private static void oddsToTheLastOfTenMinutes() {
        // Two inches take 18 or 20 units; of two units a minute it goes over in minute 10 or 11.
        DamOfTurf tenth = Check.dam("c2,0;b50,50;a9,0;");
        odds(tenth, 1, 2, 10, 0, 1);
        odds(tenth, 1, 2, 1, 9, 10);
        odds(tenth, 1, 1, 10, 1, 1);
        DamOfTurf eleventh = Check.dam("c2,0;b50,50;a10,0;");
        odds(eleventh, 1, 2, 10, 1, 1);
        odds(eleventh, 2, 2, 10, 0, 1);
        odds(eleventh, 2, 2, 1, 99, 100);
    }

    private static void oddsToTheLastOfFifty() {
        // Two inches take 49 or 50 units.
        DamOfTurf last = Check.dam("c2,0;b50,50;a17,5;");
        odds(last, 5, 1, 10, 0, 1);
        odds(last, 5, 1, 5, 31, 32);
        odds(last, 5, 1, 1, 99999, 100000);
        odds(last, 5, 1, 3, 99757, 100000);
        odds(last, 4, 1, 10, 1, 1);
        DamOfTurf late = Check.dam("c2,0;b50,50;a19,4;");
        odds(late, 5, 1, 10, 1, 1);
        odds(late, 5, 1, 5, 1, 1);
    }

    /** "it rains a UNITS more a minute, in all ten": more than comes by the text. */
    private static void oddsOfUnitsMoreInAllTen() {
        // Two inches take 29 units; a unit flows, one more is 20 in ten minutes, 30 in fifteen.
        DamOfTurf x = Check.dam("c2,0;b50,50;a10,3;f0,1;");
        odds(x, 1, 1, 10, 1, 1);
        odds(x, 1, 2, 10, 0, 1);
        odds(x, 2, 1, 10, 0, 1);
        // In twenty minutes 20 flow: rain in either ten is enough, and in both.
        odds(x, 2, 1, 5, 1, 4);
        odds(x, 2, 1, 1, 81, 100);
        odds(x, 3, 0, 5, 0, 1);
        DamOfTurf y = Check.dam("c2,0;b50,50;a10,3;r11,20,2;");
        odds(y, 2, 1, 10, 0, 1);
        odds(y, 1, 2, 10, 1, 1);
    }

    /** "by the chance of x .. of ten", "in lowest terms" */
    private static void oddsByTheChance() {
        DamOfTurf x = Check.dam("c2,0;b50,50;a9,0;");
        int[] above = {1, 9, 4, 7, 3, 1, 2, 3, 1, 1, 0};
        int[] below = {1, 10, 5, 10, 5, 2, 5, 10, 5, 10, 1};
        for (int chance = 0; chance <= 10; chance++) {
            odds(x, 1, 2, chance, above[chance], below[chance]);
        }
        // Of a unit a minute two of three tens are needed: 3 x x (10 - x) and x x x of 1000.
        int[] twos = {1000, 972, 896, 784, 648, 500, 352, 216, 104, 28, 0};
        for (int chance = 0; chance <= 10; chance++) {
            int most = 1000;
            while (1000 % most != 0 || twos[chance] % most != 0) {
                most--;
            }
            odds(x, 3, 1, chance, twos[chance] / most, 1000 / most);
        }
    }

    private static void oddsFromNowOn() {
        DamOfTurf x = Check.dam("c2,0;b50,50;a9,0;r10,19,2;");
        odds(x, 1, 0, 5, 1, 1);
        odds(x, 2, 0, 5, 0, 1);
        x.pass(9);
        odds(x, 1, 0, 5, 0, 1);
        x.undo();
        x.put(0, 2, 1);
        odds(x, 5, 30, 10, 1, 1);
    }

    /** "no CELL is BREACHED in them": what was BREACHED ahead does not count. */
    private static void oddsInThemAlone() {
        DamOfTurf x = Check.dam("c2,0;c9,0;b50,50;a9,0;f0,60;");
        x.pass(1);
        Check.same("it was breached", x.cell(0, 2), 1);
        odds(x, 5, 30, 10, 1, 1);
        x.put(0, 2, 9);
        // Now both are 9 inches high, and the SLATE is THE PLACE.
        odds(x, 5, 30, 10, 1, 1);
        x.put(0, 2, 1);
        odds(x, 1, 0, 10, 0, 1);
    }

    /** "A NIGHT by z (0 to 9999)", "UNITS (what = 0), CELLS (1). BAD." */
    private static void nightBy0To9999() {
        for (int what = 0; what <= 1; what++) {
            int asked = what;
            Check.range("z of a night", 0, 9999, z -> Check.dam("c9,2;").night(z, asked));
        }
        Check.range("what of a night", 0, 1, what -> Check.dam("c9,2;").night(1, what));
    }

    /** "(((x times x) modulo 65521) modulo 16) ..., x being 7919 z, 6151 k and 1 together" */
    private static int draw(int z, int k) {
        BigInteger x = BigInteger.valueOf(7919).multiply(BigInteger.valueOf(z))
                .add(BigInteger.valueOf(6151).multiply(BigInteger.valueOf(k))).add(BigInteger.ONE);
        return x.multiply(x).mod(BigInteger.valueOf(65521)).mod(BigInteger.valueOf(16)).intValue();
    }

    /** What came in the first k minutes of a night. */
    private static int drawn(int z, int k) {
        int all = 0;
        for (int each = 1; each <= k; each++) {
            all += draw(z, each);
        }
        return all;
    }

    private static void nightByDraws() {
        DamOfTurf x = Check.dam("c40,2;b50,50;a20,5;");
        for (int z = 0; z <= 9999; z++) {
            if (z < 40 || z > 9960 || z % 271 == 0) {
                Check.same("night(" + z + ", 0)", x.night(z, 0), drawn(z, 60));
            }
        }
        Check.same("the first draw by 0", draw(0, 1), 15);
    }

    /**
     * "the next 60 minutes": MUD of ten inches is gone in the fifth minute of going over, so in minute 60 if it begins
     * in minute 56.
     */
    private static void nightOf60Minutes() {
        int sixtieth = 0;
        int next = 0;
        for (int s = 0; s <= 5; s++) {
            for (int b = 1; b <= 20; b++) {
                DamOfTurf x = Check.dam("c10,0;b50,50;a" + b + "," + s + ";");
                int takes = 10 * b + 55 * s;
                for (int z : new int[] {0, 1, 77, 1234, 5000, 9999}) {
                    boolean gone = drawn(z, 56) > takes;
                    Check.same("night(" + z + ", 1), a" + b + "," + s, x.night(z, 1), gone ? 1 : 0);
                    sixtieth += gone && drawn(z, 55) <= takes ? 1 : 0;
                    next += !gone && drawn(z, 57) > takes ? 1 : 0;
                }
            }
        }
        Check.same("some are gone in minute 60", sixtieth > 3 ? 1 : 0, 1);
        Check.same("some would be in minute 61", next > 3 ? 1 : 0, 1);
    }

    /** "UNITS more come": more than comes by the text in the minutes from now on; k is 1 in the next one. */
    private static void nightFromNowOn() {
        DamOfTurf x = Check.dam("c40,2;b50,50;a20,5;f0,1;f50,3;r60,60,9;");
        int[] gone = {0, 1, 20, 60};
        int[] due = {49 + 11 * 3 + 9, 49 + 12 * 3 + 9, 49 + 31 * 3 + 9, 49 + 71 * 3 + 9};
        for (int k = 0; k < gone.length; k++) {
            if (gone[k] > 0) {
                x.pass(gone[k]);
            }
            for (int z = 0; z <= 9999; z += 3333) {
                Check.same("night(" + z + ", 0) behind " + gone[k], x.night(z, 0), due[k] + drawn(z, 60));
            }
            x.undo();
        }
        Check.same("nothing has gone by", x.lake(2), 0);
        // What goes over and seeps does so at night as well.
        DamOfTurf y = Check.dam("c9,2;b50,50;a1,0;");
        Check.same("9 inches", y.night(0, 0), 9);
        // From minute 2 on the edge is gone over in each even minute, by TURF of 30 inches.
        DamOfTurf z = Check.dam("c30,1;b50,50;a1,0;f0,60;");
        Check.same("TURF of 30 in minute 60", z.night(0, 1), 1);
        z.put(0, 1, 1);
        Check.same("TURF of 31 in minute 62", z.night(0, 1), 0);
        z.undo();
        z.pass(1);
        Check.same("TURF of 30 behind a minute", z.night(0, 1), 1);
    }

    /** "how many CELLS are BREACHED in them" */
    private static void nightTellsCells() {
        Check.same("none", Check.dam("c2,2;c9,0;b50,50;a1,0;f0,60;").night(0, 1), 0);
        Check.same("one of eight", Check.dam("c2,0;".repeat(8) + "b50,50;a1,0;f0,60;").night(0, 1), 1);
        Check.same("the last of eight", Check.dam("c9,0;".repeat(7) + "c1,0;b50,50;f0,60;").night(0, 1), 1);
        Check.same("none by 0 inches", Check.dam("c0,0;c2,0;b50,50;a1,0;f0,60;").night(0, 1), 0);
        DamOfTurf x = Check.dam("c2,0;c40,2;b50,50;a1,0;f0,60;");
        x.pass(1);
        Check.same("not in them", x.night(0, 1), 0);
        x.put(0, 0, 1);
        x.pass(1);
        x.put(0, 0, 1);
        Check.same("the third time", x.night(0, 1), 1);
        Check.same("that was twice", x.cell(0, 2), 2);
    }
}
