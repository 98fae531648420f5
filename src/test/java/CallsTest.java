import java.util.function.IntUnaryOperator;

/**
 * "An object is used for at most 512 calls after it has been made": the 512th is answered as the first would be,
 * whatever the 511 ahead of it were, if they left things as they were.
 */
public final class CallsTest {
    private static final int CALLS = 512;

    public static void main(String[] args) {
        for (int kind = 0; kind < 12; kind++) {
            lastBehind(kind);
        }
        lettersToTheLastCall();
        actsToTheLastCall();
        Check.end();
    }

    /** Two calls that leave a new object as it was. */
    private static void both(DamOfTurf x, int kind, int turn) {
        switch (kind) {
            case 0 -> {
                x.write(32 + turn % 95);
                x.wipe();
            }
            case 1 -> {
                x.put(0, turn % 4, 1 + turn % 9);
                x.undo();
            }
            case 2 -> {
                x.dig(1, 1 + turn % 8);
                x.undo();
            }
            case 3 -> {
                x.pass(1 + turn % 60);
                x.undo();
            }
            case 4 -> {
                x.seen(turn % 61, 1 + turn % 99);
                x.forget();
            }
            case 5 -> {
                x.keep();
                x.back();
            }
            case 6 -> {
                x.best(1 + turn % 5, turn % 4, 1 + turn % 60, -1);
                x.gap(1 + turn % 60, turn % 2);
            }
            case 7 -> {
                x.slow(turn % 3, turn, 0);
                x.trodden(turn % 3, 1 + turn % 9);
            }
            case 8 -> {
                x.odds(turn % 6, turn % 31, turn % 11, 0);
                x.night(turn, 0);
            }
            case 9 -> {
                x.behind(turn % 201, turn % 3);
                x.worn(turn % 3, turn % 201);
            }
            case 10 -> {
                x.laid();
                x.back();
            }
            default -> {
                x.put(turn, 4, 1);
                x.night(-turn - 1, 0);
            }
        }
    }

    /** The last call's answers, one for each object that was used up by calls of a kind. */
    private static void lastBehind(int kind) {
        for (int last = 0; last < 20; last++) {
            DamOfTurf x = new DamOfTurf();
            for (int turn = 0; turn < (CALLS - 1) / 2; turn++) {
                both(x, kind, turn);
            }
            x.count(0);
            Check.same("call 512 of kind " + last + " behind kind " + kind, last(x, last), last(new DamOfTurf(), last));
        }
    }

    private static int last(DamOfTurf x, int which) {
        IntUnaryOperator ask = n -> switch (n) {
            case 0 -> x.write('c');
            case 1 -> x.count(3);
            case 2 -> x.cell(1, 0);
            case 3 -> x.cell(1, 2);
            case 4 -> x.lake(1);
            case 5 -> x.lake(3);
            case 6 -> x.edge(1);
            case 7 -> x.put(1, 2, 9);
            case 8 -> x.dig(2, 9);
            case 9 -> x.pass(11);
            case 10 -> x.undo();
            case 11 -> x.behind(13, 1);
            case 12 -> x.gone(0);
            case 13 -> x.best(1, 2, 20, -1);
            case 14 -> x.gap(30, 0);
            case 15 -> x.together(-1);
            case 16 -> x.slow(1, 999, 1);
            case 17 -> x.seen(5, 6);
            case 18 -> x.keep();
            default -> x.trodden(1, 2);
        };
        return ask.applyAsInt(which);
    }

    /** A text of 200 letters is written, wiped and written once more, laid in call 512. */
    private static void lettersToTheLastCall() {
        DamOfTurf x = new DamOfTurf();
        String text = "c9,2;".repeat(3) + "b1,2;".repeat(37);
        Check.type(x, text);
        Check.same("call 201", x.laid(), 3);
        Check.same("call 202", x.wipe(), 200);
        Check.type(x, "c8,1;c7,3;" + "b9,4;".repeat(38));
        for (int call = 403; call < CALLS; call++) {
            Check.same("call " + call, x.write(';'), DamOfTurf.FULL);
        }
        Check.same("call 512", x.laid(), 2);
    }

    /** Thirty ACTS are done and UNDONE eight times over; the last of all fills them once more. */
    private static void actsToTheLastCall() {
        DamOfTurf x = new DamOfTurf();
        int call = 0;
        for (int round = 0; round < 8; round++) {
            for (int k = 1; k <= 30; k++) {
                Check.same("pass(1) in call " + ++call, x.pass(1), new DamOfTurf().behind(k, 0));
            }
            for (int left = 29; left >= 0; left--) {
                Check.same("undo() in call " + ++call, x.undo(), left);
            }
        }
        for (int k = 1; call < CALLS; k++) {
            Check.same("pass(1) in call " + ++call, x.pass(1), k > 30 ? DamOfTurf.FULL : new DamOfTurf().behind(k, 0));
        }
        Check.same("calls", call, CALLS);
    }
}
