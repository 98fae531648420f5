import java.util.Random;

/** Runs of calls drawn by fixed numbers, each answer compared with what the slow Model answers. */
public final class ModelTest {
    private static final int RUNS = 600;
    private static final int CALLS = 512;

    private final Random draw;
    private final DamOfTurf dam = new DamOfTurf();
    private final Model model = new Model();
    private int calls;

    private ModelTest(int run) {
        draw = new Random(run);
    }

    public static void main(String[] args) {
        int runs = args.length > 0 ? Integer.parseInt(args[0]) : RUNS;
        for (int run = 0; run < runs; run++) {
            new ModelTest(run).run(run);
        }
        Check.end();
    }

    private void run(int run) {
        if (run % 8 != 0) {
            type(text(run % 16 == 1));
            compare("laid()", dam.laid(), model.laid());
        }
        int again = 250 + draw.nextInt(200);
        while (calls < CALLS) {
            if (calls > again && calls < CALLS - 210 && draw.nextInt(20) == 0) {
                compare("wipe()", dam.wipe(), model.wipe());
                type(text(false));
                compare("laid()", dam.laid(), model.laid());
            } else {
                one("run " + run + ", call " + calls);
            }
        }
    }

    private void compare(String call, int got, int due) {
        calls++;
        Check.same(call, got, due);
    }

    private void type(String text) {
        for (int k = 0; k < text.length() && calls < CALLS; k++) {
            compare("write(" + text.charAt(k) + ")", dam.write(text.charAt(k)), model.write(text.charAt(k)));
        }
    }

    /** Some text that is mostly without a fault. */
    private String text(boolean high) {
        StringBuilder t = new StringBuilder();
        int cells = 1 + draw.nextInt(draw.nextInt(3) == 0 ? 8 : 4);
        int top = high ? 41 : 3 + draw.nextInt(15);
        for (int c = 0; c < cells; c++) {
            t.append('c').append(draw.nextInt(top)).append(',').append(draw.nextInt(4)).append(';');
        }
        if (draw.nextInt(4) > 0) {
            t.append('b').append(draw.nextInt(51)).append(',').append(draw.nextInt(51)).append(';');
        }
        if (draw.nextInt(4) > 0) {
            t.append('a').append(1 + draw.nextInt(20)).append(',').append(draw.nextInt(6)).append(';');
        }
        for (int k = draw.nextInt(5); k > 0; k--) {
            t.append('f').append(draw.nextInt(draw.nextBoolean() ? 10 : 100)).append(',').append(draw.nextInt(61))
                    .append(';');
        }
        for (int k = draw.nextInt(5); k > 0; k--) {
            int from = draw.nextInt(100);
            t.append('r').append(from).append(',').append(from + draw.nextInt(100 - from)).append(',')
                    .append(draw.nextInt(31)).append(';');
        }
        for (int k = draw.nextInt(5); k > 0; k--) {
            t.append('p').append(draw.nextInt(10)).append(',').append(draw.nextInt(5)).append(',')
                    .append(draw.nextInt(3)).append(',').append(draw.nextInt(2)).append(';');
        }
        for (int k = draw.nextInt(6); k > 0; k--) {
            t.append('j').append(draw.nextInt(cells)).append(',').append(draw.nextInt(draw.nextInt(4) + 1)).append(',')
                    .append(1 + draw.nextInt(30)).append(';');
        }
        if (draw.nextInt(6) == 0) {
            t.setCharAt(draw.nextInt(t.length()), "0123456789,;cbafrpj "
                    .charAt(draw.nextInt(20)));
        }
        return t.length() > 200 ? t.substring(0, t.lastIndexOf(";", 199) + 1) : t.toString();
    }

    /** A number of a range, now and then one beside it. */
    private int of(int least, int most) {
        int chance = draw.nextInt(60);
        return chance == 0 ? least - 1 : chance == 1 ? most + 1 : chance < 6 ? least : chance < 10 ? most
                : least + draw.nextInt(most - least + 1);
    }

    private int aCell() {
        return draw.nextInt(50) == 0 ? of(0, 8) : draw.nextInt(model.count(0));
    }

    private void one(String where) {
        switch (draw.nextInt(14)) {
            case 0, 1, 2, 3 -> doSomething(where);
            case 4, 5, 6 -> ask(where);
            case 7, 8 -> whatComes(where);
            case 9, 10, 11 -> whatShould(where);
            case 12 -> whatWas(where);
            default -> keptAndText(where);
        }
    }

    private void doSomething(String where) {
        int c = aCell();
        int n = of(1, 9);
        int stuff = of(0, 3);
        switch (draw.nextInt(9)) {
            case 0, 1 -> compare(where + " put(" + c + ", " + stuff + ", " + n + ")", dam.put(c, stuff, n),
                    model.put(c, stuff, n));
            case 2, 3 -> compare(where + " dig(" + c + ", " + n + ")", dam.dig(c, n), model.dig(c, n));
            case 4, 5 -> {
                int minutes = draw.nextInt(3) == 0 ? of(1, 60) : of(1, 9);
                compare(where + " pass(" + minutes + ")", dam.pass(minutes), model.pass(minutes));
            }
            default -> compare(where + " undo()", dam.undo(), model.undo());
        }
    }

    private void ask(String where) {
        int c = aCell();
        int what = of(0, 2);
        switch (draw.nextInt(6)) {
            case 0, 1 -> compare(where + " cell(" + c + ", " + what + ")", dam.cell(c, what), model.cell(c, what));
            case 2 -> {
                int w = of(0, 4);
                compare(where + " lake(" + w + ")", dam.lake(w), model.lake(w));
            }
            case 3 -> {
                int w = of(0, 1);
                compare(where + " edge(" + w + ")", dam.edge(w), model.edge(w));
            }
            case 4 -> {
                int t = of(1, draw.nextBoolean() ? 100 : 999);
                compare(where + " comes(" + t + ")", dam.comes(t), model.comes(t));
            }
            default -> {
                int w = of(0, 6);
                compare(where + " count(" + w + ")", dam.count(w), model.count(w));
            }
        }
    }

    private void whatComes(String where) {
        int c = aCell();
        int n = of(0, draw.nextBoolean() ? 20 : 200);
        int what = of(0, 2);
        int half = of(0, 1);
        switch (draw.nextInt(4)) {
            case 0 -> compare(where + " behind(" + n + ", " + what + ")", dam.behind(n, what), model.behind(n, what));
            case 1 -> compare(where + " worn(" + c + ", " + n + ")", dam.worn(c, n), model.worn(c, n));
            case 2 -> compare(where + " over(" + half + ")", dam.over(half), model.over(half));
            default -> compare(where + " gone(" + half + ")", dam.gone(half), model.gone(half));
        }
    }

    private void whatShould(String where) {
        int c = aCell();
        int n = of(1, draw.nextBoolean() ? 10 : 60);
        int stuff = of(0, 3);
        int what = of(0, 1);
        switch (draw.nextInt(7)) {
            case 0 -> {
                int m = draw.nextInt(10) == 0 ? of(1, 5) : of(1, 2);
                int at = draw.nextBoolean() ? -1 : c;
                compare(where + " best(" + m + ", " + stuff + ", " + n + ", " + at + ")",
                        dam.best(m, stuff, n, at), model.best(m, stuff, n, at));
            }
            case 1 -> compare(where + " gap(" + n + ", " + what + ")", dam.gap(n, what), model.gap(n, what));
            case 2 -> {
                int j = of(-1, Math.max(0, model.count(2) - 1));
                compare(where + " together(" + j + ")", dam.together(j), model.together(j));
            }
            case 3 -> {
                int u = of(0, draw.nextBoolean() ? 99 : 999);
                compare(where + " slow(" + c + ", " + u + ", " + what + ")", dam.slow(c, u, what),
                        model.slow(c, u, what));
            }
            case 4 -> {
                int h = of(1, draw.nextBoolean() ? 10 : 40);
                compare(where + " fill(" + h + ")", dam.fill(h), model.fill(h));
            }
            default -> {
                int inches = of(1, 9);
                compare(where + " trodden(" + c + ", " + inches + ")", dam.trodden(c, inches),
                        model.trodden(c, inches));
            }
        }
    }

    private void whatWas(String where) {
        int what = of(0, 1);
        switch (draw.nextInt(7)) {
            case 0 -> compare(where + " blame()", dam.blame(), model.blame());
            case 1, 2 -> {
                int h = of(0, draw.nextBoolean() ? 9 : 60);
                int n = of(1, draw.nextBoolean() ? 5 : 99);
                compare(where + " seen(" + h + ", " + n + ")", dam.seen(h, n), model.seen(h, n));
                compare(where + " flows()", dam.flows(), model.flows());
            }
            case 3 -> compare(where + " forget()", dam.forget(), model.forget());
            case 4, 5 -> {
                int n = of(0, 5);
                int a = of(0, 30);
                int x = of(0, 10);
                compare(where + " odds(" + n + ", " + a + ", " + x + ", " + what + ")", dam.odds(n, a, x, what),
                        model.odds(n, a, x, what));
            }
            default -> {
                int z = of(0, 9999);
                compare(where + " night(" + z + ", " + what + ")", dam.night(z, what), model.night(z, what));
            }
        }
    }

    private void keptAndText(String where) {
        int letter = of(32, 126);
        switch (draw.nextInt(7)) {
            case 0, 1 -> compare(where + " keep()", dam.keep(), model.keep());
            case 2 -> compare(where + " back()", dam.back(), model.back());
            case 3 -> compare(where + " fault()", dam.fault(), model.fault());
            case 4 -> compare(where + " write(" + letter + ")", dam.write(letter), model.write(letter));
            case 5 -> compare(where + " blame()", dam.blame(), model.blame());
            default -> {
                if (draw.nextInt(5) == 0) {
                    compare(where + " laid()", dam.laid(), model.laid());
                }
            }
        }
    }
}
