/**
 * Boundary cases of "All that are done are ACTS ..", UNDONE and KEPT, as promises 10 to 13, 30 and 31 answer. Each
 * method is one sentence of the document.
 */
public final class BoundsOfActsTest {
    private static final int NO = DamOfTurf.NO, FULL = DamOfTurf.FULL, NONE = DamOfTurf.NONE;
    /** The lake rises an inch a minute to 5; MUD is worn to 3 in minute 6, to 1 in 7, to 0 in 8. */
    private static final String MUDDY = "c5,0;c6,2;a10,0;f0,10;b50,50;";

    public static void main(String[] args) {
        laidIs1To9();
        laidAtACellOfAStuff();
        laidTo40();
        laidIsOfThatStuffFromThenOn();
        laidOnWhatIsBreached();
        dugIs1To9();
        dugFromACell();
        dugIfItHasSoMany();
        dugKeepsItsStuff();
        dugLetsTheWaterOut();
        passedIs1To60();
        passedTo999();
        passedTo999ByOnes();
        passedTellsTheLevel();
        actsAre30();
        refusedActsAreNone();
        undoneIsTheLatest();
        undoneAsOftenAsThereAreAny();
        undoneMakesRoom();
        undoneMinutes();
        keptAre2();
        keptAreAllActs();
        keptAsTheyWere();
        keptLastIsFirstBack();
        backIsNoUndo();
        backAtTheGreatest();
        Check.end();
    }

    /** "LAY n inches (1 to 9)" */
    private static void laidIs1To9() {
        Check.range("inches laid", 1, 9, n -> Check.dam("c9,2;").put(0, 0, n));
        for (int n = 1; n <= 9; n++) {
            DamOfTurf x = Check.dam("c0,2;c9,2;");
            Check.same("put(1, 0, " + n + ")", x.put(1, 0, n), 9 + n);
            Check.same("cell(1, 0)", x.cell(1, 0), 9 + n);
            Check.same("cell(0, 0)", x.cell(0, 0), 0);
        }
    }

    /** "of a STUFF at a CELL": "CELLS .. such as there are; STUFF 0 to 3" */
    private static void laidAtACellOfAStuff() {
        for (int cells = 1; cells <= 8; cells += 7) {
            String text = "c9,2;".repeat(cells);
            Check.range("cell laid at, of " + cells, 0, cells - 1, c -> Check.dam(text).put(c, 0, 1));
            Check.range("stuff laid", 0, 3, stuff -> Check.dam(text).put(0, stuff, 1));
        }
        for (int stuff = 0; stuff <= 3; stuff++) {
            DamOfTurf x = Check.dam("c9,2;c9,2;");
            x.put(0, stuff, 1);
            Check.same("STUFF there", x.cell(0, 1), stuff);
            Check.same("STUFF beside it", x.cell(1, 1), 2);
        }
    }

    /** "it is so much higher (40 at most)", "NO: above 40" */
    private static void laidTo40() {
        for (int n = 1; n <= 9; n++) {
            DamOfTurf x = Check.dam("c" + (40 - n) + ",2;");
            Check.same("to 40 by " + n, x.put(0, 0, n), 40);
            DamOfTurf y = Check.dam("c" + (41 - n) + ",2;");
            Check.same("to 41 by " + n, y.put(0, 0, n), NO);
            Check.same("none of it is laid", y.cell(0, 0), 41 - n);
            Check.same("nor its STUFF", y.cell(0, 1), 2);
            Check.same("nor is it an ACT", y.count(3), 0);
        }
        DamOfTurf z = Check.dam("c0,2;");
        int[] inches = {9, 9, 9, 9, 3};
        for (int n : inches) {
            z.put(0, 0, n);
        }
        Check.same("two at 39", z.put(0, 0, 2), NO);
        Check.same("one at 39", z.put(0, 0, 1), 40);
        Check.same("one at 40", z.put(0, 0, 1), NO);
    }

    /** "of that STUFF from then on": all of it. */
    private static void laidIsOfThatStuffFromThenOn() {
        DamOfTurf x = Check.dam("c8,0;b50,50;a1,0;f0,60;");
        x.put(0, 2, 1);
        x.pass(60);
        Check.same("MUD under SLATE is not worn", x.cell(0, 0), 9);
        x.put(0, 0, 1);
        x.pass(1);
        Check.same("SLATE under MUD is", x.cell(0, 0), 8);
        x.put(0, 1, 1);
        x.pass(1);
        Check.same("TURF in minute 62", x.cell(0, 0), 8);
        x.put(0, 3, 1);
        x.pass(60);
        Check.same("STONE", x.cell(0, 0), 9);
        Check.same("STUFF", x.cell(0, 1), 3);
        DamOfTurf y = Check.dam("c40,2;c30,3;b50,50;a1,0;f0,9;");
        y.put(1, 2, 1);
        y.pass(1);
        Check.same("STONE under SLATE does not seep", y.lake(4), 0);
        y.put(1, 1, 1);
        y.pass(1);
        Check.same("SLATE under TURF does", y.lake(4), 2);
    }

    private static void laidOnWhatIsBreached() {
        DamOfTurf x = Check.dam("c2,0;b50,50;a1,0;f0,60;");
        x.pass(1);
        Check.same("put on 0 inches", x.put(0, 2, 9), 9);
        Check.same("it stays BREACHED", x.cell(0, 2), 1);
        Check.same("and is EDGE", x.edge(0), 9);
    }

    /** "DIG n inches (1 to 9)" */
    private static void dugIs1To9() {
        Check.range("inches dug", 1, 9, n -> Check.dam("c9,2;").dig(0, n));
        for (int n = 1; n <= 9; n++) {
            DamOfTurf x = Check.dam("c40,2;c30,2;");
            Check.same("dig(1, " + n + ")", x.dig(1, n), 30 - n);
            Check.same("cell(1, 0)", x.cell(1, 0), 30 - n);
            Check.same("cell(0, 0)", x.cell(0, 0), 40);
        }
    }

    private static void dugFromACell() {
        for (int cells = 1; cells <= 8; cells += 7) {
            String text = "c9,2;".repeat(cells);
            Check.range("cell dug from, of " + cells, 0, cells - 1, c -> Check.dam(text).dig(c, 1));
        }
    }

    /** "from a CELL that has so many" */
    private static void dugIfItHasSoMany() {
        for (int n = 1; n <= 9; n++) {
            Check.same("all " + n, Check.dam("c" + n + ",2;").dig(0, n), 0);
            DamOfTurf x = Check.dam("c" + (n - 1) + ",2;");
            Check.same("one more than " + (n - 1), x.dig(0, n), NO);
            Check.same("none of it is dug", x.cell(0, 0), n - 1);
            Check.same("nor is it an ACT", x.count(3), 0);
        }
        DamOfTurf y = Check.dam("c2,0;c9,2;b50,50;a1,0;f0,60;");
        y.pass(1);
        Check.same("dug from what is worn to 0", y.dig(0, 1), NO);
    }

    private static void dugKeepsItsStuff() {
        for (int stuff = 0; stuff <= 3; stuff++) {
            DamOfTurf x = Check.dam("c9," + stuff + ";");
            x.dig(0, 4);
            Check.same("STUFF of some", x.cell(0, 1), stuff);
            x.dig(0, 5);
            Check.same("STUFF of none", x.cell(0, 1), stuff);
            Check.same("it is not BREACHED", x.cell(0, 2), 0);
            x.put(0, 3 - stuff, 1);
            Check.same("STUFF that is laid there", x.cell(0, 1), 3 - stuff);
        }
    }

    private static void dugLetsTheWaterOut() {
        DamOfTurf x = Check.dam("c9,2;b50,50;a1,0;f0,9;f2,0;");
        x.pass(1);
        x.dig(0, 4);
        Check.same("not ahead of the next minute", x.lake(0), 9);
        Check.same("edge(0)", x.edge(0), 5);
        Check.same("in the next minute", x.pass(1), 5);
        Check.same("over", x.lake(3), 4);
    }

    /** "n MINUTES (1 to 60) go by" */
    private static void passedIs1To60() {
        Check.range("minutes", 1, 60, n -> Check.dam("c9,2;").pass(n));
        for (int n : new int[] {1, 2, 59, 60}) {
            DamOfTurf x = Check.dam("c0,2;f0,1;");
            x.pass(n);
            Check.same("minutes gone by", x.lake(2), n);
            Check.same("as much water", x.lake(3), n);
            Check.same("one ACT", x.count(3), 1);
        }
    }

    /** "(999 in all at most)", "NO: above 999" */
    private static void passedTo999() {
        for (int last = 38; last <= 40; last++) {
            DamOfTurf x = Check.dam("c0,2;f0,1;");
            for (int k = 0; k < 16; k++) {
                x.pass(60);
            }
            Check.same("960 and " + last, x.pass(last), last == 40 ? NO : 0);
            Check.same("minutes", x.lake(2), last == 40 ? 960 : 960 + last);
            Check.same("another", x.pass(1), last == 39 ? NO : 0);
            Check.same("minutes", x.lake(2), last == 40 ? 961 : 999);
            Check.same("water", x.lake(3), x.lake(2));
        }
    }

    private static void passedTo999ByOnes() {
        DamOfTurf x = Check.dam("c0,2;f0,1;");
        for (int k = 0; k < 16; k++) {
            x.pass(60);
        }
        x.pass(37);
        Check.same("three at 997", x.pass(3), NO);
        Check.same("sixty at 997", x.pass(60), NO);
        Check.same("two at 997", x.pass(2), 0);
        Check.same("one at 999", x.pass(1), NO);
        Check.same("minutes", x.lake(2), 999);
        x.undo();
        Check.same("one at 997 again", x.pass(1), 0);
        Check.same("minutes", x.lake(2), 998);
        Check.same("two at 998", x.pass(2), NO);
        Check.same("one at 998", x.pass(1), 0);
        Check.same("minutes", x.lake(2), 999);
    }

    /** "MINUTES: the LEVEL then." */
    private static void passedTellsTheLevel() {
        DamOfTurf x = Check.dam(MUDDY);
        int[] due = {1, 2, 3, 4, 5, 5, 3, 1, 0};
        for (int k = 0; k < due.length; k++) {
            Check.same("pass(1) " + (k + 1), x.pass(1), due[k]);
            Check.same("pass(n) " + (k + 1), Check.dam(MUDDY).pass(k + 1), due[k]);
        }
        DamOfTurf y = Check.dam("c40,2;b50,50;a1,0;f0,40;");
        Check.same("to the brim", y.pass(1), 40);
        Check.same("no higher", y.pass(60), 40);
    }

    /** "ACTS (30 at most)", of each kind as the last one and as the first that is too many. */
    private static void actsAre30() {
        for (int kind = 0; kind < 3; kind++) {
            DamOfTurf x = Check.dam("c9,2;c9,2;f0,1;");
            for (int k = 1; k < 30; k++) {
                if (k % 2 == 0) {
                    x.put(0, 0, 1);
                } else {
                    x.dig(0, 1);
                }
            }
            Check.same("count(3)", x.count(3), 29);
            int due = kind == 0 ? 10 : kind == 1 ? 8 : 0;
            Check.same("act 30 of kind " + kind, act(x, kind, 1), due);
            Check.same("count(3)", x.count(3), 30);
            for (int other = 0; other < 3; other++) {
                String was = Check.state(x);
                Check.same("act 31 of kind " + other, act(x, other, 0), FULL);
                Check.same("state", Check.state(x), was);
            }
        }
    }

    private static int act(DamOfTurf x, int kind, int c) {
        return kind == 0 ? x.put(c, 1, 1) : kind == 1 ? x.dig(c, 1) : x.pass(1);
    }

    /** "nothing changes then": what is refused is no ACT. */
    private static void refusedActsAreNone() {
        DamOfTurf x = Check.dam("c40,2;c0,2;");
        for (int k = 0; k < 40; k++) {
            Check.same("put above 40", x.put(0, 0, 1), NO);
            Check.same("dig of none", x.dig(1, 1), NO);
            Check.same("pass(0)", x.pass(0), DamOfTurf.BAD);
        }
        Check.same("count(3)", x.count(3), 0);
        Check.same("undo()", x.undo(), NO);
    }

    /** "UNDONE is the latest ACT" */
    private static void undoneIsTheLatest() {
        DamOfTurf x = Check.dam("c9,2;c9,3;f0,9;a1,0;");
        x.put(0, 0, 1);
        x.put(0, 1, 2);
        Check.same("undo()", x.undo(), 1);
        Check.same("inches", x.cell(0, 0), 10);
        Check.same("STUFF", x.cell(0, 1), 0);
        x.dig(1, 4);
        x.pass(1);
        x.dig(1, 2);
        Check.same("undo() of the second dig", x.undo(), 3);
        Check.same("inches", x.cell(1, 0), 5);
        Check.same("water", x.lake(1), 5);
        Check.same("undo() of the minute", x.undo(), 2);
        Check.same("water", x.lake(1), 0);
        Check.same("seeped", x.lake(4), 0);
        Check.same("over", x.lake(3), 0);
        Check.same("undo() of the first dig", x.undo(), 1);
        Check.same("inches", x.cell(1, 0), 9);
        Check.same("undo() of what was laid", x.undo(), 0);
        Check.same("inches", x.cell(0, 0), 9);
        Check.same("STUFF", x.cell(0, 1), 2);
    }

    /** "as often as there are any", "NO." */
    private static void undoneAsOftenAsThereAreAny() {
        DamOfTurf x = Check.dam("c9,2;f0,1;");
        Check.same("undo() of none", x.undo(), NO);
        for (int k = 0; k < 30; k++) {
            x.pass(1);
        }
        for (int left = 29; left >= 0; left--) {
            Check.same("undo()", x.undo(), left);
            Check.same("minutes", x.lake(2), left);
        }
        Check.same("undo() of none again", x.undo(), NO);
        Check.same("undo() of none once more", x.undo(), NO);
        Check.same("count(3)", x.count(3), 0);
        Check.same("an ACT then", x.put(0, 0, 1), 10);
        Check.same("count(3)", x.count(3), 1);
    }

    private static void undoneMakesRoom() {
        DamOfTurf x = Check.dam("c9,2;f0,1;");
        for (int k = 0; k < 30; k++) {
            x.pass(2);
        }
        Check.same("full", x.pass(1), FULL);
        Check.same("undo()", x.undo(), 29);
        Check.same("there is room", x.pass(1), x.lake(0));
        Check.same("minutes", x.lake(2), 59);
        Check.same("full again", x.pass(1), FULL);
    }

    /** What MINUTES did to the water, the cells and the sums is undone with them. */
    private static void undoneMinutes() {
        DamOfTurf x = Check.dam("c3,1;c40,3;b50,50;a1,0;f0,30;r3,9,5;");
        x.pass(1);
        String was = Check.state(x);
        x.pass(5);
        Check.same("breached in minute 6", x.cell(0, 2), 1);
        x.pass(60);
        x.undo();
        Check.same("breached still", x.cell(0, 2), 1);
        Check.same("minutes", x.lake(2), 6);
        x.undo();
        Check.same("state", Check.state(x), was);
        Check.same("not breached", x.cell(0, 2), 0);
    }

    /** "2 at most", "FULL." */
    private static void keptAre2() {
        DamOfTurf x = Check.dam(MUDDY);
        Check.same("back() of none", x.back(), NO);
        Check.same("first", x.keep(), 1);
        Check.same("second", x.keep(), 2);
        Check.same("third", x.keep(), FULL);
        Check.same("third again", x.keep(), FULL);
        Check.same("count(5)", x.count(5), 2);
        Check.same("back()", x.back(), 1);
        Check.same("room for one", x.keep(), 2);
        Check.same("for no more", x.keep(), FULL);
        Check.same("back()", x.back(), 1);
        Check.same("back()", x.back(), 0);
        Check.same("back() of none", x.back(), NO);
        Check.same("back() of none again", x.back(), NO);
        Check.same("count(5)", x.count(5), 0);
        Check.same("first again", x.keep(), 1);
    }

    /** "KEPT are all ACTS": none, and thirty. */
    private static void keptAreAllActs() {
        DamOfTurf x = Check.dam("c9,2;c9,2;b50,50;a1,0;f0,9;");
        String none = Check.state(x);
        x.keep();
        for (int k = 0; k < 10; k++) {
            x.put(0, k % 4, 3);
            x.dig(0, 2);
            x.pass(3);
        }
        x.keep();
        String thirty = Check.state(x);
        for (int k = 0; k < 30; k++) {
            x.undo();
        }
        x.dig(1, 9);
        Check.same("back() to thirty", x.back(), 1);
        // Of two kept one is left, so the row of numbers tells 1 where it told 2.
        Check.same("state", Check.state(x), kept(thirty, "30 0 2", "30 0 1"));
        Check.same("back() to none", x.back(), 0);
        Check.same("state", Check.state(x), none);
    }

    /** Each ACT with its CELL, STUFF and inches or minutes, whatever was done in its stead since. */
    private static void keptAsTheyWere() {
        DamOfTurf x = Check.dam("c9,2;c9,2;b50,50;a1,0;f0,3;");
        x.put(0, 1, 3);
        x.put(1, 3, 2);
        x.pass(4);
        x.dig(1, 5);
        x.keep();
        String was = Check.state(x);
        for (int k = 0; k < 4; k++) {
            x.undo();
        }
        x.dig(0, 9);
        x.put(0, 0, 9);
        x.put(0, 2, 1);
        x.pass(1);
        x.pass(60);
        x.put(1, 0, 9);
        Check.same("back()", x.back(), 0);
        Check.same("state", Check.state(x), kept(was, "4 0 1", "4 0 0"));
        for (int left = 3; left >= 0; left--) {
            Check.same("undo()", x.undo(), left);
        }
        Check.same("undo() of no more", x.undo(), NO);
    }

    private static String kept(String state, String was, String is) {
        Check.same("the state tells it", state.contains(was) ? 1 : 0, 1);
        return state.replace(was, is);
    }

    /** "As KEPT last" */
    private static void keptLastIsFirstBack() {
        DamOfTurf x = Check.dam(MUDDY);
        x.put(0, 2, 1);
        x.keep();
        x.put(0, 2, 2);
        x.keep();
        x.put(0, 2, 4);
        Check.same("back()", x.back(), 1);
        Check.same("of two ACTS", x.cell(0, 0), 8);
        Check.same("back()", x.back(), 0);
        Check.same("of one ACT", x.cell(0, 0), 6);
        Check.same("back()", x.back(), NO);
        Check.same("stays so", x.cell(0, 0), 6);
    }

    /** What is KEPT is taken from there alone; UNDONE and other ACTS leave it as it was. */
    private static void backIsNoUndo() {
        DamOfTurf x = Check.dam(MUDDY);
        x.pass(8);
        x.keep();
        Check.same("undo()", x.undo(), 0);
        Check.same("count(5) behind undo", x.count(5), 1);
        x.put(1, 0, 9);
        x.pass(1);
        Check.same("back()", x.back(), 0);
        Check.same("count(3)", x.count(3), 1);
        Check.same("minutes", x.lake(2), 8);
        Check.same("breached", x.cell(0, 2), 1);
        Check.same("the other", x.cell(1, 0), 6);
        Check.same("blame()", x.blame(), 0);
        Check.same("undo() of what came back", x.undo(), 0);
        Check.same("minutes", x.lake(2), 0);
        Check.same("blame()", x.blame(), NONE);
    }

    private static void backAtTheGreatest() {
        DamOfTurf x = Check.dam("c0,2;f0,1;");
        for (int k = 0; k < 17; k++) {
            x.pass(k == 16 ? 39 : 60);
        }
        x.keep();
        for (int k = 0; k < 17; k++) {
            x.undo();
        }
        Check.same("back() to 999 minutes", x.back(), 0);
        Check.same("minutes", x.lake(2), 999);
        Check.same("water", x.lake(3), 999);
        Check.same("none more", x.pass(1), NO);
    }
}
