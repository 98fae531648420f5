import java.util.function.IntUnaryOperator;

/** Counts answers that are as due and those that are not; makes dams from texts. */
final class Check {
    private static final int ALL_FLOWS = 2147483647;
    private static int right;
    private static int wrong;

    private Check() {
    }

    static void same(String call, long got, long due) {
        if (got == due) {
            right++;
        } else {
            wrong++;
            System.out.println(call + " answered " + got + ", due is " + due);
        }
    }

    static void same(String call, String got, String due) {
        if (got.equals(due)) {
            right++;
        } else {
            wrong++;
            System.out.println(call + " answered " + got + ", due is " + due);
        }
    }

    /** The last call of a test's main method. */
    static void end() {
        System.out.println(right + " answers as due, " + wrong + " not");
        if (wrong != 0) {
            System.exit(1);
        }
    }

    static void type(DamOfTurf x, String text) {
        for (int k = 0; k < text.length(); k++) {
            x.write(text.charAt(k));
        }
    }

    /** A new object on which that text is laid. */
    static DamOfTurf dam(String text) {
        DamOfTurf x = new DamOfTurf();
        type(x, text);
        same("fault() of " + text, x.fault(), DamOfTurf.NONE);
        x.laid();
        return x;
    }

    /** What can be asked of how things stand, in one row, in some forty calls. */
    static String state(DamOfTurf x) {
        StringBuilder all = new StringBuilder();
        for (int c = 0; c < 8; c++) {
            for (int what = 0; what <= 2; what++) {
                all.append(x.cell(c, what)).append(' ');
            }
        }
        for (int what = 0; what <= 4; what++) {
            all.append(x.lake(what)).append(' ');
        }
        all.append(x.edge(0)).append(' ').append(x.edge(1)).append(' ').append(x.comes(1)).append(' ');
        for (int what = 0; what <= 6; what++) {
            all.append(x.count(what)).append(' ');
        }
        return all.append(x.flows()).append(' ').append(x.fault()).toString();
    }

    /** That the least and the greatest number of a range are taken, and those beside it and far from it are BAD. */
    static void range(String name, int least, int greatest, IntUnaryOperator call) {
        for (int n : new int[] {least, greatest}) {
            same(name + " of " + n + " is taken", call.applyAsInt(n) == DamOfTurf.BAD ? 0 : 1, 1);
        }
        for (int n : new int[] {least - 1, greatest + 1, Integer.MIN_VALUE, Integer.MAX_VALUE}) {
            same(name + " of " + n, call.applyAsInt(n), DamOfTurf.BAD);
        }
    }

    static int allFlows() {
        return ALL_FLOWS;
    }
}
