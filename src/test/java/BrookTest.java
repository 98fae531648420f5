/** Promises 1 to 9: a new object, write, wipe, fault, laid, cell, lake, edge, comes. */
public final class BrookTest {
    private static final int BAD = DamOfTurf.BAD, NO = DamOfTurf.NO, FULL = DamOfTurf.FULL, NONE = DamOfTurf.NONE;

    public static void main(String[] args) {
        constants();
        newObject();
        write();
        wipe();
        faultOfForm();
        faultOfNumbers();
        faultOfCount();
        laidRefused();
        laidAnew();
        laidWithout();
        cell();
        lake();
        levelAtMost();
        seepsAsMuchAsThereIs();
        edge();
        comes();
        Check.end();
    }

    private static void constants() {
        Check.same("BAD", BAD, -1);
        Check.same("NO", NO, -2);
        Check.same("FULL", FULL, -3);
        Check.same("NONE", NONE, -4);
    }

    private static void newObject() {
        DamOfTurf x = new DamOfTurf();
        int[] counts = {3, 2, 2, 0, 0, 0, 0};
        for (int what = 0; what < counts.length; what++) {
            Check.same("new count(" + what + ")", x.count(what), counts[what]);
        }
        int[][] cells = {{10, 0, 0}, {8, 1, 0}, {12, 3, 0}};
        for (int c = 0; c < 3; c++) {
            for (int what = 0; what < 3; what++) {
                Check.same("new cell(" + c + ", " + what + ")", x.cell(c, what), cells[c][what]);
            }
        }
        for (int what = 0; what < 5; what++) {
            Check.same("new lake(" + what + ")", x.lake(what), 0);
        }
        Check.same("new edge(0)", x.edge(0), 8);
        Check.same("new edge(1)", x.edge(1), 1);
        Check.same("new comes(1)", x.comes(1), 9);
        Check.same("new fault()", x.fault(), NONE);
        Check.same("new laid()", x.laid(), NO);
        Check.same("new wipe()", x.wipe(), 0);
        Check.same("new undo()", x.undo(), NO);
        Check.same("new back()", x.back(), NO);
        Check.same("new blame()", x.blame(), NONE);
        Check.same("new forget()", x.forget(), 0);
        Check.same("new flows()", x.flows(), Check.allFlows());
        Check.same("new together(-1)", x.together(-1), 2);
        Check.same("new together(0)", x.together(0), 0);
        Check.same("new together(1)", x.together(1), 1);
        // As if the first text had been laid.
        DamOfTurf y = Check.dam("c10,0;c8,1;c12,3;b20,20;a6,1;f0,9;p3,1,0,2;p1,2,1,0;j0,0,6;j1,1,4;");
        y.wipe();
        x.pass(20);
        y.pass(20);
        Check.same("new, behind 20 minutes", Check.state(x), Check.state(y));
        x.put(1, 2, 9);
        x.put(0, 2, 9);
        x.put(0, 2, 9);
        Check.same("new edge(0), when cell 2 is lowest", x.edge(0), 12);
        x.put(2, 2, 9);
        x.put(1, 2, 9);
        Check.same("new edge(0), when all cells are high", x.edge(0), 20);
        Check.same("new edge(1), when all cells are high", x.edge(1), 8);
    }

    private static void write() {
        DamOfTurf x = new DamOfTurf();
        Check.same("write(31)", x.write(31), BAD);
        Check.same("write(127)", x.write(127), BAD);
        Check.same("write(-1)", x.write(-1), BAD);
        Check.same("write(min)", x.write(Integer.MIN_VALUE), BAD);
        Check.same("write(max)", x.write(Integer.MAX_VALUE), BAD);
        Check.same("write(32 + 256)", x.write(288), BAD);
        Check.same("count(6) behind BAD", x.count(6), 0);
        Check.same("write(32)", x.write(32), 1);
        Check.same("write(126)", x.write(126), 2);
        for (int k = 3; k <= 200; k++) {
            Check.same("write number " + k, x.write('c'), k);
        }
        Check.same("write number 201", x.write('c'), FULL);
        Check.same("write(31) when full", x.write(31), BAD);
        Check.same("count(6) when full", x.count(6), 200);
        Check.same("wipe() when full", x.wipe(), 200);
        Check.same("write behind wipe", x.write('c'), 1);
        DamOfTurf y = new DamOfTurf();
        for (int k = 0; k < 40; k++) {
            Check.type(y, "b1,2;");
        }
        Check.same("fault() of 200 letters", y.fault(), NONE);
        y.write('b');
        Check.same("fault() behind FULL", y.fault(), NONE);
    }

    private static void wipe() {
        DamOfTurf x = new DamOfTurf();
        Check.type(x, "c5,0;");
        x.laid();
        Check.same("count(6) behind laid", x.count(6), 5);
        Check.same("wipe()", x.wipe(), 5);
        Check.same("wipe() again", x.wipe(), 0);
        Check.same("count(6) behind wipe", x.count(6), 0);
        Check.same("count(0) behind wipe", x.count(0), 1);
        Check.same("fault() behind wipe", x.fault(), NONE);
    }

    private static void fault(String text, int due) {
        DamOfTurf x = new DamOfTurf();
        Check.type(x, text);
        Check.same("fault() of " + text, x.fault(), due);
        Check.same("count(6) behind fault() of " + text, x.count(6), text.length());
    }

    private static void faultOfForm() {
        fault("", NONE);
        fault("c10,0;", NONE);
        fault("c01,00;c1,0;", NONE);
        for (String text : new String[] {"c10,0", "c10,", "c10", "c", ";", ",", "10,0;", "0;", " c10,0;", "c 10,0;",
                "c10 ,0;", "c,0;", "c10,;", "c;", "c10;", "c10,0,0;", "c010,0;", "c10,000;", "C10,0;", "c-1,0;",
                "c10.0;", "c10;0;", "cc10,0;", "d10,0;", "~", "c10,0:", "c1/,0;", "c1:,0;", "b1;", "b1,2,3;",
                "a1;", "a1,2,3;", "f1;", "f1,2,3;", "r1,2;", "r1,2,3,4;", "p1,2,3;", "p1,2,3,4,5;"}) {
            fault(text, 0);
            fault("c3,3;" + text, 5);
            fault("b9,9;c3,3;" + text + "c3,3;", 10);
        }
        fault("c3,3;j0,1;", 5);
        fault("c3,3;j0,1,2,3;", 5);
        fault("c3,3; ", 5);
        fault("c3,3;;", 5);
        fault("c3,3;x1;c99,0;", 5);
    }

    private static void faultOfNumbers() {
        for (String text : new String[] {"c0,0;", "c40,3;", "b0,0;", "b50,50;", "a1,0;", "a20,5;", "f0,0;", "f99,60;",
                "r0,0,0;", "r0,99,30;", "r99,99,30;", "p0,0,0,0;", "p9,9,9,9;", "p09,1,1,1;"}) {
            fault(text, NONE);
        }
        for (String text : new String[] {"c41,0;", "c0,4;", "b51,0;", "b0,51;", "a0,0;", "a21,0;", "a1,6;", "f0,61;",
                "r1,0,0;", "r99,98,0;", "r0,0,31;", "p10,0,0,0;", "p0,10,0,0;", "p0,0,10,0;", "p0,0,0,10;",
                "j0,0,1;"}) {
            fault(text, 0);
        }
        fault("c1,0;j0,0,1;", NONE);
        fault("c1,0;j0,3,30;", NONE);
        fault("c1,0;j1,0,1;", 5);
        fault("c1,0;c1,0;j1,0,1;", NONE);
        fault("c1,0;j1,0,1;c1,0;", 5);
        fault("c1,0;j0,4,1;", 5);
        fault("c1,0;j0,0,0;", 5);
        fault("c1,0;j0,0,31;", 5);
    }

    private static void faultOfCount() {
        atMost("c1,0;", "", 8);
        atMost("f1,0;", "", 4);
        atMost("r1,1,0;", "", 4);
        atMost("p1,1,1,1;", "", 4);
        atMost("j0,0,1;", "c1,0;", 5);
        fault("b1,1;".repeat(20), NONE);
        fault("a1,1;".repeat(20), NONE);
        // Other items do not count, nor do those of an earlier reading.
        DamOfTurf x = new DamOfTurf();
        Check.type(x, "c1,0;".repeat(8) + "f1,0;".repeat(4) + "r1,1,0;".repeat(4) + "p1,1,1,1;".repeat(4)
                + "j0,0,1;".repeat(5));
        for (int k = 0; k < 3; k++) {
            Check.same("fault() of all that there may be, again", x.fault(), NONE);
            Check.same("laid() of all that there may be, again", x.laid(), 8);
        }
    }

    private static void atMost(String item, String ahead, int most) {
        String text = ahead + item.repeat(most);
        fault(text, NONE);
        fault(text + item, text.length());
    }

    private static void laidRefused() {
        DamOfTurf x = new DamOfTurf();
        x.put(1, 0, 1);
        x.pass(30);
        x.seen(3, 4);
        x.keep();
        for (String text : new String[] {"", "b1,1;", "a1,1;f0,1;", "c1,0;c41,0;", "c1,0"}) {
            x.wipe();
            Check.type(x, text);
            String was = Check.state(x);
            Check.same("laid() of " + text, x.laid(), NO);
            Check.same("state behind laid() of " + text, Check.state(x), was);
        }
        x.back();
        Check.same("acts KEPT behind a refused laid()", x.count(3), 2);
    }

    private static void laidAnew() {
        DamOfTurf x = new DamOfTurf();
        x.pass(30);
        x.put(1, 0, 9);
        x.seen(3, 4);
        x.keep();
        Check.type(x, "c7,2;c6,3;b5,4;a3,2;f0,8;p1,1,1,1;j1,2,3;");
        Check.same("laid()", x.laid(), 2);
        int[] counts = {2, 1, 1, 0, 0, 0, 41};
        for (int what = 0; what < counts.length; what++) {
            Check.same("count(" + what + ") behind laid", x.count(what), counts[what]);
        }
        for (int what = 0; what < 5; what++) {
            Check.same("lake(" + what + ") behind laid", x.lake(what), 0);
        }
        Check.same("cell(0, 0)", x.cell(0, 0), 7);
        Check.same("cell(0, 1)", x.cell(0, 1), 2);
        Check.same("cell(1, 0)", x.cell(1, 0), 6);
        Check.same("cell(1, 1)", x.cell(1, 1), 3);
        Check.same("cell(1, 2)", x.cell(1, 2), 0);
        Check.same("cell(2, 0)", x.cell(2, 0), BAD);
        Check.same("edge(0)", x.edge(0), 4);
        Check.same("edge(1)", x.edge(1), 9);
        Check.same("undo()", x.undo(), NO);
        Check.same("back()", x.back(), NO);
        Check.same("blame()", x.blame(), NONE);
        Check.same("flows()", x.flows(), Check.allFlows());
        // The first inch takes 5, the second 7, the third 9.
        Check.same("pass(1)", x.pass(1), 1);
        Check.same("pass(1)", x.pass(1), 2);
        x.write('!');
        Check.same("laid() with a fault", x.laid(), NO);
        Check.same("lake(1)", x.lake(1), 16);
        x.wipe();
        Check.type(x, "c9,1;");
        Check.same("laid() again", x.laid(), 1);
        Check.same("count(1)", x.count(1), 0);
        Check.same("count(2)", x.count(2), 0);
        Check.same("cell(0, 0)", x.cell(0, 0), 9);
        Check.same("lake(1)", x.lake(1), 0);
        Check.same("comes(1)", x.comes(1), 0);
        // What the text ahead told of banks and lake is told no more.
        x.wipe();
        Check.type(x, "c30,2;b3,2;a9,5;f0,9;");
        x.laid();
        x.wipe();
        Check.type(x, "c30,2;f0,13;");
        x.laid();
        Check.same("edge(0) without banks again", x.edge(0), 20);
        Check.same("edge(1) without banks again", x.edge(1), 8);
        Check.same("6, 1 again: 13 units", x.pass(1), 1);
        Check.same("6, 1 again: 26 units", x.pass(1), 3);
    }

    private static void laidWithout() {
        DamOfTurf x = Check.dam("c30,2;f0,13;");
        Check.same("edge(0) without banks", x.edge(0), 20);
        Check.same("edge(1) without banks", x.edge(1), 8);
        Check.same("6, 1: 13 units", x.pass(1), 1);
        Check.same("6, 1: 26 units", x.pass(1), 3);
        Check.same("comes(1) without a flow", Check.dam("c30,2;").comes(1), 0);
        DamOfTurf y = Check.dam("c30,2;b1,2;b8,7;a20,5;a2,0;f0,5;");
        Check.same("edge(0), the last banks", y.edge(0), 7);
        Check.same("edge(1), the last banks", y.edge(1), 9);
        Check.same("the last lake: 5 units", y.pass(1), 2);
    }

    private static void cell() {
        DamOfTurf x = Check.dam("c5,0;c0,1;c40,2;c7,3;b50,50;f0,1;");
        int[][] due = {{5, 0}, {0, 1}, {40, 2}, {7, 3}};
        for (int c = 0; c < 4; c++) {
            Check.same("cell(" + c + ", 0)", x.cell(c, 0), due[c][0]);
            Check.same("cell(" + c + ", 1)", x.cell(c, 1), due[c][1]);
            Check.same("cell(" + c + ", 2)", x.cell(c, 2), 0);
        }
        Check.same("cell(-1, 0)", x.cell(-1, 0), BAD);
        Check.same("cell(4, 0)", x.cell(4, 0), BAD);
        Check.same("cell(8, 0)", x.cell(8, 0), BAD);
        Check.same("cell(min, 0)", x.cell(Integer.MIN_VALUE, 0), BAD);
        Check.same("cell(max, 0)", x.cell(Integer.MAX_VALUE, 0), BAD);
        Check.same("cell(0, -1)", x.cell(0, -1), BAD);
        Check.same("cell(0, 3)", x.cell(0, 3), BAD);
        x.pass(1);
        Check.same("a cell of 0 inches is not breached", x.cell(1, 2), 0);
        DamOfTurf y = Check.dam("c2,0;c40,2;b50,50;a10,0;f0,60;");
        y.pass(1);
        Check.same("breached once", y.cell(0, 2), 1);
        y.pass(5);
        Check.same("breached no more", y.cell(0, 2), 1);
        y.put(0, 0, 1);
        y.pass(5);
        Check.same("breached twice", y.cell(0, 2), 2);
        y.put(0, 0, 2);
        y.dig(0, 2);
        y.pass(5);
        Check.same("dug away is not breached", y.cell(0, 2), 2);
    }

    private static void lake() {
        DamOfTurf x = Check.dam("c20,1;c20,3;c20,0;c20,2;b50,50;a10,0;f0,60;");
        int[][] due = {{5, 58, 1, 0, 2}, {11, 114, 2, 0, 6}, {16, 167, 3, 0, 13}, {20, 200, 4, 18, 22}};
        for (int k = 0; k < due.length; k++) {
            x.pass(1);
            for (int what = 0; what < 5; what++) {
                Check.same("minute " + (k + 1) + ", lake(" + what + ")", x.lake(what), due[k][what]);
            }
        }
        Check.same("lake(-1)", x.lake(-1), BAD);
        Check.same("lake(5)", x.lake(5), BAD);
        DamOfTurf y = Check.dam("c20,2;a7,3;f0,10;f2,12;f3,0;");
        Check.same("10 units are an inch", y.pass(1), 1);
        Check.same("22 units are an inch", y.pass(1), 1);
        DamOfTurf z = Check.dam("c20,2;a7,3;f0,10;f2,13;f3,0;");
        z.pass(1);
        Check.same("23 units are two inches", z.pass(1), 2);
    }

    private static void levelAtMost() {
        DamOfTurf x = Check.dam("c40,3;b50,50;a1,0;f0,60;r0,99,30;r0,99,30;");
        x.pass(1);
        Check.same("of 120 inches the level is 60", x.lake(4), 20);
        Check.same("lake(0)", x.lake(0), 40);
        Check.same("lake(1)", x.lake(1), 40);
        Check.same("lake(3)", x.lake(3), 60);
    }

    private static void seepsAsMuchAsThereIs() {
        DamOfTurf x = Check.dam("c20,3;c20,3;c20,3;c20,3;c20,3;b50,50;a1,0;f0,3;");
        x.pass(1);
        Check.same("lake(1)", x.lake(1), 0);
        Check.same("lake(4)", x.lake(4), 3);
        DamOfTurf y = Check.dam("c0,3;c5,3;c0,1;c5,1;b50,50;a1,0;f0,9;");
        y.pass(1);
        Check.same("a cell of 0 inches does not seep", y.lake(4), 4);
        Check.same("the others' water goes over", y.lake(3), 5);
        DamOfTurf v = Check.dam("c1,3;b50,50;a1,0;f0,9;");
        v.pass(1);
        Check.same("a cell of an inch seeps", v.lake(4), 3);
        // What seeps is by the level ahead of what goes over.
        DamOfTurf z = Check.dam("c2,3;b50,50;a1,0;f0,9;");
        z.pass(1);
        Check.same("seeps ahead of going over", z.lake(4), 3);
        Check.same("goes over then", z.lake(3), 4);
        // Sixteen inches are two eighths, not twice what one inch less gives.
        DamOfTurf w = Check.dam("c40,1;b50,50;a1,0;f0,7;f2,1;f3,8;f4,0;");
        w.pass(1);
        Check.same("an eighth of 7", w.lake(4), 0);
        w.pass(1);
        Check.same("an eighth of 8", w.lake(4), 1);
        w.pass(1);
        Check.same("an eighth of 15", w.lake(4), 2);
    }

    private static void edge() {
        int[][] due = {{4, 0}, {4, 1}, {4, 1}, {3, 8}, {3, 8}, {3, 9}, {3, 1}, {0, 0}};
        String[] texts = {"c4,0;c5,0;b9,9;", "c5,0;c4,0;b9,9;", "c5,0;c4,0;c4,0;b4,4;", "c5,0;c4,0;b3,4;",
                "c5,0;c4,0;b3,3;", "c5,0;c4,0;b4,3;", "c5,0;c3,0;b4,3;", "c0,0;b0,0;"};
        for (int k = 0; k < texts.length; k++) {
            DamOfTurf x = Check.dam(texts[k]);
            Check.same("edge(0) of " + texts[k], x.edge(0), due[k][0]);
            Check.same("edge(1) of " + texts[k], x.edge(1), due[k][1]);
            Check.same("edge(-1)", x.edge(-1), BAD);
            Check.same("edge(2)", x.edge(2), BAD);
        }
        DamOfTurf y = Check.dam("c5,0;c7,0;b9,9;");
        y.put(0, 2, 3);
        Check.same("edge(0) behind put", y.edge(0), 7);
        Check.same("edge(1) behind put", y.edge(1), 1);
        y.dig(0, 2);
        Check.same("edge(0) behind dig", y.edge(0), 6);
        Check.same("edge(1) behind dig", y.edge(1), 0);
        y.undo();
        Check.same("edge(0) behind undo", y.edge(0), 7);
    }

    private static void comes() {
        DamOfTurf x = Check.dam("c9,0;f5,20;f2,7;f5,30;f99,1;r0,1,3;r5,98,10;r6,6,20;r99,99,5;");
        int[] minutes = {1, 2, 4, 5, 6, 7, 98, 99, 100, 101, 999};
        int[] due = {3, 7, 7, 40, 60, 40, 40, 6, 1, 1, 1};
        for (int k = 0; k < minutes.length; k++) {
            Check.same("comes(" + minutes[k] + ")", x.comes(minutes[k]), due[k]);
        }
        Check.same("comes(0)", x.comes(0), BAD);
        Check.same("comes(1000)", x.comes(1000), BAD);
        Check.same("comes(-5)", x.comes(-5), BAD);
        Check.same("comes(min)", x.comes(Integer.MIN_VALUE), BAD);
        Check.same("comes(max)", x.comes(Integer.MAX_VALUE), BAD);
        x.pass(60);
        Check.same("from the beginning, comes(1)", x.comes(1), 3);
        DamOfTurf y = Check.dam("c9,0;f3,0;f0,5;");
        Check.same("comes(2)", y.comes(2), 5);
        Check.same("a flow may end, comes(3)", y.comes(3), 0);
    }
}
