/** Promises 14 to 17: behind, worn, over, gone. */
public final class ComingTest {
    private static final int BAD = DamOfTurf.BAD, NONE = DamOfTurf.NONE;
    private static final int LEAST = Integer.MIN_VALUE, GREATEST = Integer.MAX_VALUE;
    /** The lake rises an inch a minute to 5; MUD is worn to 3 in minute 6, to 1 in 7, to 0 in 8. */
    private static final String MUDDY = "c5,0;c6,2;a10,0;f0,10;b50,50;";

    public static void main(String[] args) {
        behind();
        worn();
        over();
        overFar();
        gone();
        goneFar();
        Check.end();
    }

    private static void behind() {
        DamOfTurf x = Check.dam(MUDDY);
        String was = Check.state(x);
        int[] minutes = {0, 1, 5, 6, 7, 8, 9, 200};
        int[] units = {0, 10, 50, 50, 30, 10, 0, 0};
        int[] over = {0, 0, 0, 10, 40, 70, 90, 2000};
        for (int k = 0; k < minutes.length; k++) {
            int n = minutes[k];
            Check.same("behind(" + n + ", 0)", x.behind(n, 0), units[k] / 10);
            Check.same("behind(" + n + ", 1)", x.behind(n, 1), units[k]);
            Check.same("behind(" + n + ", 2)", x.behind(n, 2), over[k]);
        }
        for (int n : new int[] {-1, 201, LEAST, GREATEST}) {
            Check.same("behind(" + n + ", 0)", x.behind(n, 0), BAD);
        }
        Check.same("behind(1, -1)", x.behind(1, -1), BAD);
        Check.same("behind(1, 3)", x.behind(1, 3), BAD);
        Check.same("state behind behind", Check.state(x), was);
        x.pass(7);
        Check.same("in minute 7, behind(0, 1)", x.behind(0, 1), 30);
        Check.same("in minute 7, behind(0, 2)", x.behind(0, 2), 0);
        Check.same("in minute 7, behind(1, 2)", x.behind(1, 2), 30);
    }

    private static void worn() {
        DamOfTurf x = Check.dam(MUDDY);
        int[] minutes = {0, 5, 6, 7, 8, 9, 200};
        int[] height = {5, 5, 3, 1, 0, 0, 0};
        for (int k = 0; k < minutes.length; k++) {
            Check.same("worn(0, " + minutes[k] + ")", x.worn(0, minutes[k]), height[k]);
            Check.same("worn(1, " + minutes[k] + ")", x.worn(1, minutes[k]), 6);
        }
        int[][] bad = {{-1, 1}, {2, 1}, {8, 1}, {LEAST, 1}, {GREATEST, 1}, {0, -1}, {0, 201}, {0, LEAST},
                {0, GREATEST}};
        for (int[] p : bad) {
            Check.same("worn(" + p[0] + ", " + p[1] + ")", x.worn(p[0], p[1]), BAD);
        }
        Check.same("cell(0, 0) behind worn", x.cell(0, 0), 5);
        x.pass(6);
        Check.same("in minute 6, worn(0, 0)", x.worn(0, 0), 3);
        Check.same("in minute 6, worn(0, 1)", x.worn(0, 1), 1);
        // TURF is worn in even minutes from the beginning, not from now on.
        DamOfTurf y = Check.dam("c3,1;b50,50;a1,0;f0,5;");
        Check.same("worn(0, 1)", y.worn(0, 1), 3);
        Check.same("worn(0, 2)", y.worn(0, 2), 2);
        y.pass(1);
        Check.same("in minute 1, worn(0, 1)", y.worn(0, 1), 2);
        Check.same("in minute 1, worn(0, 2)", y.worn(0, 2), 2);
        Check.same("in minute 1, worn(0, 3)", y.worn(0, 3), 1);
    }

    private static void over() {
        DamOfTurf x = Check.dam(MUDDY);
        Check.same("over(0)", x.over(0), 6);
        Check.same("over(1)", x.over(1), 0);
        x.pass(5);
        Check.same("in minute 5, over(0)", x.over(0), 1);
        x.put(0, 1, 1);
        Check.same("put, over(0)", x.over(0), 2);
        Check.same("put, over(1)", x.over(1), 0);
        x.put(0, 1, 1);
        Check.same("put again, over(1)", x.over(1), 1);
        for (int what : new int[] {-1, 2, LEAST, GREATEST}) {
            Check.same("over(" + what + ")", x.over(what), BAD);
        }
        // THE PLACE is as it is when the water goes over, ahead of what is worn then.
        DamOfTurf y = Check.dam("c9,2;c1,0;b9,9;f0,60;");
        Check.same("over(1) of mud that is worn away", y.over(1), 1);
        Check.same("over(1) at the left bank", Check.dam("c9,2;b8,8;f0,60;").over(1), 8);
        Check.same("over(1) at the right bank", Check.dam("c9,2;b8,7;f0,60;").over(1), 9);
    }

    private static void overFar() {
        DamOfTurf x = Check.dam("c39,2;b50,50;a10,0;f0,2;");
        Check.same("over(0), at 390 units", x.over(0), 196);
        DamOfTurf y = Check.dam("c40,2;b50,50;a5,0;f0,1;");
        Check.same("over(0) when it takes 201 minutes", y.over(0), NONE);
        Check.same("over(1) when it takes 201 minutes", y.over(1), NONE);
        Check.same("over(2) is BAD though there is none", y.over(2), BAD);
        y.pass(1);
        Check.same("over(0) when it takes 200 minutes", y.over(0), 200);
        Check.same("over(1) when it takes 200 minutes", y.over(1), 0);
        Check.same("over(0) without a flow", Check.dam("c0,0;").over(0), NONE);
    }

    private static void gone() {
        DamOfTurf x = Check.dam(MUDDY);
        Check.same("gone(0)", x.gone(0), 8);
        Check.same("gone(1)", x.gone(1), 0);
        x.pass(7);
        Check.same("in minute 7, gone(0)", x.gone(0), 1);
        x.pass(1);
        Check.same("in minute 8, gone(0)", x.gone(0), NONE);
        Check.same("in minute 8, gone(1)", x.gone(1), NONE);
        for (int what : new int[] {-1, 2, LEAST, GREATEST}) {
            Check.same("gone(" + what + ")", x.gone(what), BAD);
        }
        DamOfTurf y = Check.dam("c9,1;c4,1;c4,2;b50,50;a1,0;f0,40;");
        Check.same("gone(0) of turf", y.gone(0), 8);
        Check.same("gone(1) of turf", y.gone(1), 1);
        y.pass(1);
        Check.same("in minute 1, gone(0)", y.gone(0), 7);
        Check.same("a cell of 0 inches is not gone", Check.dam("c0,0;f0,9;").gone(0), NONE);
        Check.same("gone(0) of slate", Check.dam("c3,2;f0,9;").gone(0), NONE);
    }

    private static void goneFar() {
        Check.same("gone(0) of two inches", Check.dam("c2,0;b50,50;a10,0;f99,7;").gone(0), 101);
        Check.same("gone(0) of an inch", Check.dam("c1,0;b50,50;a1,0;f99,1;").gone(0), 100);
        // 180 units below the edge, a unit a minute from minute 3 on, then worn for 18 minutes.
        DamOfTurf x = Check.dam("c36,0;b50,50;a5,0;f3,1;");
        Check.same("over(0) at 180 units", x.over(0), 183);
        Check.same("gone(0) in minute 200", x.gone(0), 200);
        Check.same("gone(1) in minute 200", x.gone(1), 0);
        DamOfTurf y = Check.dam("c36,0;b50,50;a5,0;f4,1;");
        Check.same("gone(0) in minute 201", y.gone(0), NONE);
        Check.same("gone(1) in minute 201", y.gone(1), NONE);
        Check.same("gone(2) is BAD though there is none", y.gone(2), BAD);
        y.pass(1);
        Check.same("a minute later, gone(0)", y.gone(0), 200);
    }
}
