/**
 * Boundary cases of "1 A TEXT ..", as promises 1 to 5, 9 and 32 answer: the least and the greatest number that is
 * allowed, the first that is not, none, and as many as there may be. Each method is one sentence of the document.
 */
public final class BoundsOfTextTest {
    private static final int NO = DamOfTurf.NO, FULL = DamOfTurf.FULL, NONE = DamOfTurf.NONE;
    private static final String EIGHT = "c9,2;".repeat(8);
    /** An item of each letter that is without fault behind EIGHT (that of a cell: behind none). */
    private static final int[][] ITEMS = {{'c', 9, 2}, {'b', 9, 9}, {'a', 6, 1}, {'f', 1, 1}, {'r', 0, 99, 1},
            {'p', 1, 1, 1, 1}, {'j', 0, 0, 1}};
    /** The least and the greatest of each of its numbers. */
    private static final int[][] LIMITS = {{0, 40, 0, 3}, {0, 50, 0, 50}, {1, 20, 0, 5}, {0, 99, 0, 60},
            {0, 99, 0, 99, 0, 30}, {0, 9, 0, 9, 0, 9, 0, 9}, {0, 7, 0, 3, 1, 30}};

    public static void main(String[] args) {
        textHas200Letters();
        textIsEmptyAtFirstAndWhenWiped();
        letterIs32To126();
        numberHasOneOrTwoFigures();
        numbersArePartedByCommas();
        numbersAreAsManyAsTold();
        semicolonStandsBehindTheLast();
        eachNumberIsWithinItsLimits();
        lettersAreSeven();
        rainEndsNoSoonerThanItBegins();
        cellOfAJobIsToldAhead();
        itemsAreSoMany();
        banksAndLakeAsOftenAsWanted();
        faultIsThatOfTheFirst();
        laidIsOfACellAtLeast();
        laidAtFirst();
        laidTakesAllBack();
        laidKeepsTheText();
        laidTellsNothingOfTheOneAhead();
        greatestNumbersAreLaid();
        banksWithout();
        lakeWithout();
        noFlowAhead();
        flowOfTheGreatestBegun();
        flowOfSeveralIsTheLast();
        flowHasNoEnd();
        rainFromTo();
        rainsAddUp();
        comesIn1To999();
        countIs0To6();
        Check.end();
    }

    private static DamOfTurf typed(String text) {
        DamOfTurf x = new DamOfTurf();
        Check.type(x, text);
        return x;
    }

    private static void fault(String text, int due) {
        Check.same("fault() of " + text, typed(text).fault(), due);
    }

    private static String ahead(int letter) {
        return letter == 'c' ? "b9,9;" : EIGHT;
    }

    /** The item with another text for one of its numbers, if at is not -1. */
    private static String item(int[] item, int at, String other) {
        StringBuilder all = new StringBuilder().append((char) item[0]);
        for (int k = 1; k < item.length; k++) {
            all.append(k == 1 ? "" : ",").append(k - 1 == at ? other : String.valueOf(item[k]));
        }
        return all.append(';').toString();
    }

    /** "A TEXT is letters (200 at most)" */
    private static void textHas200Letters() {
        DamOfTurf x = typed("b1,2;".repeat(38) + "c9,2;c8,2");
        Check.same("letter 200", x.write(';'), 200);
        Check.same("letter 201", x.write(';'), FULL);
        Check.same("letter 201 again", x.write('c'), FULL);
        Check.same("count(6)", x.count(6), 200);
        Check.same("fault() of 200 letters", x.fault(), NONE);
        Check.same("laid() of 200 letters", x.laid(), 2);
        Check.same("the last of them counts", x.cell(1, 0), 8);
        Check.same("wipe()", x.wipe(), 200);
        Check.same("there is room again", x.write('c'), 1);
        DamOfTurf y = typed("b1,2;".repeat(39) + "c9,2");
        Check.same("fault() of 199 letters", y.fault(), 195);
        y.write(':');
        Check.same("fault() in letter 200", y.fault(), 195);
    }

    /** "THE TEXT is empty: how long it was." */
    private static void textIsEmptyAtFirstAndWhenWiped() {
        DamOfTurf x = new DamOfTurf();
        Check.same("count(6) at first", x.count(6), 0);
        Check.same("wipe() at first", x.wipe(), 0);
        Check.same("first letter", x.write('c'), 1);
        Check.same("wipe() of one", x.wipe(), 1);
        Check.same("wipe() of none", x.wipe(), 0);
        Check.same("fault() of none", x.fault(), NONE);
        Check.type(x, "c7,1;");
        Check.same("nothing of the wiped letter is left", x.laid(), 1);
        Check.same("nor in front", x.cell(0, 0), 7);
    }

    /** "A letter (32 to 126, as in ASCII) comes behind THE TEXT" */
    private static void letterIs32To126() {
        Check.range("write", 32, 126, n -> new DamOfTurf().write(n));
        for (int n : new int[] {0, 31, 127, 128, 32 + 256, 'c' + 65536, -99}) {
            DamOfTurf x = typed("c9,2");
            Check.same("write(" + n + ")", x.write(n), DamOfTurf.BAD);
            Check.same("the next letter behind it", x.write(';'), 5);
            Check.same("laid()", x.laid(), 1);
        }
        for (int letter = 32; letter <= 126; letter++) {
            DamOfTurf x = typed("c9,2;");
            Check.same("write(" + letter + ")", x.write(letter), 6);
            Check.same("fault() behind it", x.fault(), 5);
        }
    }

    /** "numbers (one or two figures)" */
    private static void numberHasOneOrTwoFigures() {
        for (int[] item : ITEMS) {
            for (int at = 0; at < item.length - 1; at++) {
                String ahead = ahead(item[0]);
                String figure = String.valueOf(item[at + 1]);
                boolean one = figure.length() == 1;
                fault(ahead + item(item, at, figure), NONE);
                fault(ahead + item(item, at, one ? "0" + figure : figure), NONE);
                fault(ahead + item(item, at, ""), ahead.length());
                fault(ahead + item(item, at, (one ? "00" : "0") + figure), ahead.length());
                fault(ahead + item(item, at, "+1"), ahead.length());
                fault(ahead + item(item, at, "1 "), ahead.length());
                fault(ahead + item(item, at, "/"), ahead.length());
                fault(ahead + item(item, at, ":"), ahead.length());
            }
        }
        DamOfTurf x = Check.dam("c07,02;c00,00;");
        Check.same("07 is 7", x.cell(0, 0), 7);
        Check.same("02 is 2", x.cell(0, 1), 2);
        Check.same("00 is 0", x.cell(1, 0), 0);
    }

    /** "parted by ," */
    private static void numbersArePartedByCommas() {
        for (String mark : new String[] {"", ";", ".", " ", ",,", ", ", "+", "-"}) {
            for (int[] item : ITEMS) {
                String ahead = ahead(item[0]);
                fault(ahead + item(item, -1, "").replaceFirst(",", mark), ahead.length());
            }
        }
    }

    /** "cH,K", "bL,R", "aB,S", "fM,F", "rM,N,A", "pA,B,C,D", "jC,K,N" */
    private static void numbersAreAsManyAsTold() {
        for (int[] item : ITEMS) {
            String ahead = ahead(item[0]);
            String whole = item(item, -1, "");
            fault(ahead + whole, NONE);
            fault(ahead + whole.substring(0, whole.lastIndexOf(',')) + ";", ahead.length());
            fault(ahead + whole.replace(";", ",1;"), ahead.length());
            fault(ahead + whole.replace(";", ",;"), ahead.length());
            fault(ahead + (char) item[0] + ";", ahead.length());
        }
    }

    /** "and a ; behind the last one" */
    private static void semicolonStandsBehindTheLast() {
        for (int[] item : ITEMS) {
            String ahead = ahead(item[0]);
            String whole = item(item, -1, "");
            for (int length = 1; length < whole.length(); length++) {
                fault(ahead + whole.substring(0, length), ahead.length());
            }
            fault(ahead + whole + ";", ahead.length() + whole.length());
            fault(ahead + whole.replace(';', ':'), ahead.length());
            fault(ahead + whole.substring(0, whole.length() - 1) + "b1,1;", ahead.length());
        }
    }

    /** "(0 to 40)", "(0 MUD, 1 TURF, 2 SLATE, 3 STONE)", "(0 to 50)", "B 1 to 20, S 0 to 5" and so on */
    private static void eachNumberIsWithinItsLimits() {
        for (int k = 0; k < ITEMS.length; k++) {
            int[] item = ITEMS[k];
            String ahead = ahead(item[0]);
            for (int at = 0; at < item.length - 1; at++) {
                int least = LIMITS[k][2 * at];
                int greatest = LIMITS[k][2 * at + 1];
                fault(ahead + item(item, at, String.valueOf(least)), NONE);
                fault(ahead + item(item, at, String.valueOf(greatest)), NONE);
                fault(ahead + item(item, at, String.valueOf(least - 1)), ahead.length());
                fault(ahead + item(item, at, String.valueOf(greatest + 1)), ahead.length());
                if (greatest < 99) {
                    fault(ahead + item(item, at, "99"), ahead.length());
                }
            }
        }
    }

    /** "ITEMS .., each a letter": of c, b, a, f, r, p, j. */
    private static void lettersAreSeven() {
        for (int letter = 32; letter <= 126; letter++) {
            for (int numbers = 0; numbers <= 5; numbers++) {
                String item = (char) letter + ",1".repeat(numbers).replaceFirst(",", "") + ";";
                boolean due = numbers == 2 && "cbaf".indexOf(letter) >= 0 || numbers == 3 && "rj".indexOf(letter) >= 0
                        || numbers == 4 && letter == 'p';
                fault("c9,2;c9,2;" + item, due ? NONE : 10);
            }
        }
    }

    /** "M no more than N" */
    private static void rainEndsNoSoonerThanItBegins() {
        for (int m = 0; m <= 99; m += 33) {
            fault("c9,2;r" + m + "," + m + ",1;", NONE);
            if (m > 0) {
                fault("c9,2;r" + m + "," + (m - 1) + ",1;", 5);
                fault("c9,2;r" + (m - 1) + "," + m + ",1;", NONE);
            }
        }
    }

    /** "at CELL C (told ahead)" */
    private static void cellOfAJobIsToldAhead() {
        for (int cells = 0; cells <= 8; cells++) {
            String ahead = "b9,9;" + "c9,2;".repeat(cells);
            if (cells > 0) {
                fault(ahead + "j" + (cells - 1) + ",0,1;", NONE);
            }
            fault(ahead + "j" + cells + ",0,1;", ahead.length());
            if (cells < 8) {
                fault(ahead + "j" + cells + ",0,1;c9,2;", ahead.length());
                fault(ahead + "c9,2;j" + cells + ",0,1;", NONE);
            }
        }
    }

    /** "8 at most", "4 at most", "5 at most" */
    private static void itemsAreSoMany() {
        int[] most = {8, 0, 0, 4, 4, 4, 5};
        for (int k = 0; k < ITEMS.length; k++) {
            if (most[k] > 0) {
                String ahead = ITEMS[k][0] == 'c' ? "b9,9;" : "c9,2;";
                String all = ahead + item(ITEMS[k], -1, "").repeat(most[k]);
                DamOfTurf x = typed(all);
                Check.same("fault() of " + all, x.fault(), NONE);
                Check.same("fault() again", x.fault(), NONE);
                Check.same("laid()", x.laid(), ITEMS[k][0] == 'c' ? 8 : 1);
                Check.type(x, item(ITEMS[k], -1, ""));
                Check.same("fault() of one more than " + all, x.fault(), all.length());
                Check.same("laid() of one more", x.laid(), NO);
            }
        }
    }

    /** "the last one": there is no bound but the text's. */
    private static void banksAndLakeAsOftenAsWanted() {
        DamOfTurf x = Check.dam("c40,2;" + "b1,1;".repeat(17) + "a1,0;".repeat(17) + "b7,6;a9,0;f0,9;");
        Check.same("edge(0)", x.edge(0), 6);
        Check.same("edge(1)", x.edge(1), 9);
        Check.same("pass(1)", x.pass(1), 1);
    }

    /** "FAULT: the place of the first letter of the first ITEM that is not so." */
    private static void faultIsThatOfTheFirst() {
        fault("c41,0;c41,0;", 0);
        fault("c40,0;c41,0;c42,0;", 6);
        fault("c40,0;x;c41,0;", 6);
        fault("c40,0;c40,0;c1,00x;", 12);
        fault("x", 0);
        fault("c9,2;x", 5);
        fault("c9,2", 0);
        // A ninth cell stands ahead of a job of a cell that is not told.
        fault(EIGHT + "c9,2;j8,0,1;", 40);
        fault(EIGHT + "j8,0,1;c9,2;", 40);
        Check.same("the answer is a place, not a letter's number from 1", typed("b9,9;c9,4;").fault(), 5);
    }

    /** "LAID is a TEXT without FAULT, of a CELL at least (NO else ..)" */
    private static void laidIsOfACellAtLeast() {
        Check.same("laid() of nothing", new DamOfTurf().laid(), NO);
        Check.same("laid() of no cell", typed("b9,9;a1,0;f0,1;r0,0,1;p1,1,1,1;").laid(), NO);
        Check.same("laid() of a cell", typed("c0,0;").laid(), 1);
        Check.same("laid() of a cell, last", typed("b9,9;c0,0;").laid(), 1);
        Check.same("laid() of eight", typed(EIGHT).laid(), 8);
        Check.same("laid() of nine", typed(EIGHT + "c9,2;").laid(), NO);
        Check.same("laid() of a cell and a fault", typed("c9,2;c").laid(), NO);
    }

    /** "at first c10,0;c8,1;c12,3;b20,20;a6,1;f0,9;p3,1,0,2;p1,2,1,0;j0,0,6;j1,1,4;" */
    private static void laidAtFirst() {
        String text = "c10,0;c8,1;c12,3;b20,20;a6,1;f0,9;p3,1,0,2;p1,2,1,0;j0,0,6;j1,1,4;";
        DamOfTurf laid = Check.dam(text);
        DamOfTurf x = new DamOfTurf();
        laid.wipe();
        Check.same("state", Check.state(x), Check.state(laid));
        int[] cells = {10, 0, 0, 8, 1, 0, 12, 3, 0};
        for (int k = 0; k < cells.length; k++) {
            Check.same("cell(" + k / 3 + ", " + k % 3 + ")", x.cell(k / 3, k % 3), cells[k]);
        }
        int[] counts = {3, 2, 2, 0, 0, 0, 0};
        for (int what = 0; what <= 6; what++) {
            Check.same("count(" + what + ")", x.count(what), counts[what]);
        }
        for (int what = 0; what <= 4; what++) {
            Check.same("lake(" + what + ")", x.lake(what), 0);
        }
        Check.same("comes(1)", x.comes(1), 9);
        Check.same("comes(999)", x.comes(999), 9);
        Check.same("a level of 1 takes 7", x.pass(1), 1);
        Check.same("together(-1)", x.together(-1), 2);
        Check.same("who lays six of MUD", x.together(0), 0);
        Check.same("who lays four of TURF", x.together(1), 1);
        Check.same("no later job", x.together(2), DamOfTurf.BAD);
    }

    /** "LAID: how many CELLS; no water, no ACTS, nothing SEEN, KEPT." */
    private static void laidTakesAllBack() {
        DamOfTurf x = Check.dam("c2,0;c40,3;b50,50;a10,0;f0,60;");
        x.pass(60);
        x.put(1, 1, 9);
        x.dig(1, 1);
        x.keep();
        x.keep();
        for (int k = 0; k < 8; k++) {
            x.seen(1, 1);
        }
        Check.same("there was water that went over", x.lake(3) > 0 ? 1 : 0, 1);
        Check.same("and a breach", x.cell(0, 2), 1);
        Check.same("laid() again", x.laid(), 2);
        for (int what = 0; what <= 4; what++) {
            Check.same("lake(" + what + ")", x.lake(what), 0);
        }
        int[] cells = {2, 0, 0, 40, 3, 0};
        for (int k = 0; k < cells.length; k++) {
            Check.same("cell(" + k / 3 + ", " + k % 3 + ")", x.cell(k / 3, k % 3), cells[k]);
        }
        for (int what = 3; what <= 5; what++) {
            Check.same("count(" + what + ")", x.count(what), 0);
        }
        Check.same("undo()", x.undo(), NO);
        Check.same("back()", x.back(), NO);
        Check.same("blame()", x.blame(), NONE);
        Check.same("forget()", x.forget(), 0);
        Check.same("flows()", x.flows(), Check.allFlows());
        Check.same("keep() may be had twice again", x.keep() * 10 + x.keep(), 12);
    }

    /** What is laid stays THE TEXT; to wipe it does not take the dam away. */
    private static void laidKeepsTheText() {
        DamOfTurf x = typed("c9,2;");
        Check.same("laid()", x.laid(), 1);
        Check.same("count(6)", x.count(6), 5);
        Check.same("fault()", x.fault(), NONE);
        Check.same("wipe()", x.wipe(), 5);
        Check.same("count(0)", x.count(0), 1);
        Check.same("cell(0, 0)", x.cell(0, 0), 9);
        Check.same("laid() of no text", x.laid(), NO);
        Check.same("cell(0, 0) behind it", x.cell(0, 0), 9);
    }

    /** What a text does not tell is as without, whatever the one ahead told. */
    private static void laidTellsNothingOfTheOneAhead() {
        for (String banks : new String[] {"b5,50;", "b50,5;", "b40,40;"}) {
            DamOfTurf x = Check.dam("c30,2;c30,1;c0,3;a1,0;f0,60;f1,60;r0,99,30;p9,9,9,9;j0,0,30;" + banks);
            x.wipe();
            Check.type(x, "c30,2;f9,14;f10,1;");
            Check.same("laid()", x.laid(), 1);
            Check.same("edge(0) behind " + banks, x.edge(0), 20);
            Check.same("edge(1) behind " + banks, x.edge(1), 8);
            Check.same("comes(8)", x.comes(8), 0);
            Check.same("comes(9)", x.comes(9), 14);
            Check.same("comes(10)", x.comes(10), 1);
            Check.same("count(1)", x.count(1), 0);
            Check.same("count(2)", x.count(2), 0);
            Check.same("together(-1)", x.together(-1), 0);
            x.pass(8);
            Check.same("14 units are of an inch", x.pass(1), 1);
            Check.same("15 units are of two inches", x.pass(1), 2);
            Check.same("worn(1, 0)", x.worn(1, 0), DamOfTurf.BAD);
            // Nor does a text that is looked at for its fault tell anything.
            x.wipe();
            Check.type(x, "c9,2;b1,1;a1,0;f0,60;");
            Check.same("fault()", x.fault(), NONE);
            Check.same("edge(0)", x.edge(0), 20);
            Check.same("comes(1)", x.comes(1), 0);
            Check.type(x, "c");
            Check.same("laid() of a fault", x.laid(), NO);
            Check.same("edge(0)", x.edge(0), 20);
            Check.same("lake(0)", x.lake(0), 2);
        }
    }

    private static void greatestNumbersAreLaid() {
        DamOfTurf x = Check.dam("c40,3;" + "c0,0;".repeat(6) + "c40,3;b50,50;a20,5;" + "f99,60;".repeat(4)
                + "r0,99,30;".repeat(4) + "p9,9,9,9;".repeat(4) + "j7,3,30;".repeat(5));
        Check.same("cell(0, 0)", x.cell(0, 0), 40);
        Check.same("cell(7, 1)", x.cell(7, 1), 3);
        Check.same("cell(6, 0)", x.cell(6, 0), 0);
        Check.same("comes(98)", x.comes(98), 120);
        Check.same("comes(99)", x.comes(99), 180);
        Check.same("comes(100)", x.comes(100), 60);
        Check.same("together(-1)", x.together(-1), 8);
        Check.same("together(3)", x.together(3), 1);
        Check.same("together(4)", x.together(4), 2);
    }

    /** "(0 to 50) inches high (20, 20 without ..)" */
    private static void banksWithout() {
        DamOfTurf x = Check.dam("c21,2;");
        Check.same("edge(0) of 21 inches", x.edge(0), 20);
        Check.same("edge(1) of 21 inches", x.edge(1), 8);
        DamOfTurf y = Check.dam("c20,2;");
        Check.same("edge(0) of 20 inches", y.edge(0), 20);
        Check.same("edge(1) of 20 inches", y.edge(1), 0);
        Check.same("edge(1) of 19 inches", Check.dam("c19,2;").edge(1), 0);
    }

    /** "(B 1 to 20, S 0 to 5; 6, 1 without ..)": the first inch takes 7, the second 8. */
    private static void lakeWithout() {
        int[] units = {0, 6, 7, 14, 15, 23, 24};
        int[] levels = {0, 0, 1, 1, 2, 2, 3};
        for (int k = 0; k < units.length; k++) {
            Check.same("level of " + units[k], Check.dam("c19,2;f0," + units[k] + ";").pass(1), levels[k]);
        }
    }

    /** "(none ahead ..)" */
    private static void noFlowAhead() {
        Check.same("comes(1) without any", Check.dam("c9,2;").comes(1), 0);
        Check.same("comes(999) without any", Check.dam("c9,2;").comes(999), 0);
        for (int m = 2; m <= 99; m += 97) {
            DamOfTurf x = Check.dam("c9,2;f" + m + ",60;");
            Check.same("comes(" + (m - 1) + ")", x.comes(m - 1), 0);
            Check.same("comes(" + m + ")", x.comes(m), 60);
        }
        Check.same("comes(1) from minute 0 on", Check.dam("c9,2;f0,60;").comes(1), 60);
        Check.same("comes(1) from minute 1 on", Check.dam("c9,2;f1,60;").comes(1), 60);
    }

    /** "of those told the one of the greatest M that has begun" */
    private static void flowOfTheGreatestBegun() {
        for (String text : new String[] {"f0,1;f5,2;f6,3;f99,4;", "f99,4;f6,3;f5,2;f0,1;", "f6,3;f0,1;f99,4;f5,2;"}) {
            DamOfTurf x = Check.dam("c9,2;" + text);
            int[] minutes = {1, 4, 5, 6, 98, 99, 999};
            int[] due = {1, 1, 2, 3, 3, 4, 4};
            for (int k = 0; k < minutes.length; k++) {
                Check.same(text + " comes(" + minutes[k] + ")", x.comes(minutes[k]), due[k]);
            }
        }
    }

    /** "of several the last one" */
    private static void flowOfSeveralIsTheLast() {
        DamOfTurf x = Check.dam("c9,2;f5,9;f5,60;f5,0;f5,7;");
        Check.same("comes(4)", x.comes(4), 0);
        Check.same("comes(5)", x.comes(5), 7);
        DamOfTurf y = Check.dam("c9,2;f0,9;f0,3;f5,8;f0,4;");
        Check.same("comes(4)", y.comes(4), 4);
        Check.same("comes(5)", y.comes(5), 8);
        Check.same("comes(1), of 60 and 0", Check.dam("c9,2;f0,60;f0,0;").comes(1), 0);
    }

    /** "from minute M on": to the end. */
    private static void flowHasNoEnd() {
        DamOfTurf x = Check.dam("c0,2;f99,60;");
        for (int k = 0; k < 17; k++) {
            x.pass(k == 16 ? 39 : 60);
        }
        Check.same("what went over in 999 minutes", x.lake(3), 901 * 60);
        Check.same("what will in 200 more", x.behind(200, 2), 200 * 60);
    }

    /** "in minutes M to N (0 to 99 ..) it rains A (0 to 30) UNITS more" */
    private static void rainFromTo() {
        DamOfTurf x = Check.dam("c9,2;r5,8,30;");
        int[] minutes = {4, 5, 8, 9};
        int[] due = {0, 30, 30, 0};
        for (int k = 0; k < minutes.length; k++) {
            Check.same("r5,8,30; comes(" + minutes[k] + ")", x.comes(minutes[k]), due[k]);
        }
        DamOfTurf y = Check.dam("c9,2;r99,99,1;r0,1,2;r0,0,4;");
        int[] others = {1, 2, 98, 99, 100, 999};
        int[] dues = {2, 0, 0, 1, 0, 0};
        for (int k = 0; k < others.length; k++) {
            Check.same("rains of a minute, comes(" + others[k] + ")", y.comes(others[k]), dues[k]);
        }
    }

    /** "UNITS more": more than flows, and more than other rains. */
    private static void rainsAddUp() {
        DamOfTurf x = Check.dam("c9,2;f0,60;r1,4,30;r2,4,30;r3,4,30;r4,4,30;");
        for (int t = 1; t <= 5; t++) {
            Check.same("comes(" + t + ")", x.comes(t), t == 5 ? 60 : 60 + 30 * t);
        }
    }

    /** "What flows in minute t (1 to 999) from the beginning, rain as well." */
    private static void comesIn1To999() {
        Check.range("comes", 1, 999, n -> Check.dam("c9,2;f0,1;").comes(n));
        DamOfTurf x = Check.dam("c9,2;f0,1;f60,7;r3,3,9;");
        x.pass(60);
        x.pass(60);
        Check.same("comes(3) behind 120 minutes", x.comes(3), 10);
        Check.same("comes(59) behind 120 minutes", x.comes(59), 1);
        Check.same("comes(60) behind 120 minutes", x.comes(60), 7);
    }

    /** "How many: 0 CELLS, 1 CHILDREN, 2 JOBS, 3 ACTS, 4 SEEN, 5 KEPT, 6 letters of THE TEXT." */
    private static void countIs0To6() {
        Check.range("count", 0, 6, n -> new DamOfTurf().count(n));
        DamOfTurf least = Check.dam("c9,2;");
        least.wipe();
        DamOfTurf most = Check.dam(EIGHT + "p1,1,1,1;".repeat(4) + "j0,0,1;".repeat(5));
        while (most.write('x') != FULL) {
            most.write('x');
        }
        for (int k = 0; k < 30; k++) {
            most.pass(1);
        }
        for (int k = 0; k < 8; k++) {
            most.seen(0, 1);
        }
        most.keep();
        most.keep();
        int[] fewest = {1, 0, 0, 0, 0, 0, 0};
        int[] greatest = {8, 4, 5, 30, 8, 2, 200};
        for (int what = 0; what <= 6; what++) {
            Check.same("least count(" + what + ")", least.count(what), fewest[what]);
            Check.same("greatest count(" + what + ")", most.count(what), greatest[what]);
        }
    }
}
