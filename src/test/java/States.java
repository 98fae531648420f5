/** Ways that things may stand, to ask and to refuse calls in. */
enum States {
    NEW, BUSY, FULLEST, WITHOUT;

    /** A new object on which that state was brought about, always by the same calls. */
    static DamOfTurf in(States state) {
        DamOfTurf x = new DamOfTurf();
        switch (state) {
            case NEW:
                return x;
            case BUSY:
                Check.type(x, "c9,1;c4,0;c7,3;b8,30;a3,2;f0,5;f9,40;r4,60,3;p1,2,3,0;p2,0,1,0;j0,0,5;j1,2,9;j2,1,7;");
                x.laid();
                x.wipe();
                Check.type(x, "c3,2;c4");
                x.pass(9);
                x.put(1, 2, 3);
                x.keep();
                x.dig(2, 2);
                x.pass(7);
                x.seen(3, 4);
                x.seen(1, 1);
                return x;
            case FULLEST:
                return fullest(x);
            default:
                Check.type(x, "c40,2;");
                x.laid();
                x.wipe();
                return x;
        }
    }

    private static DamOfTurf fullest(DamOfTurf x) {
        Check.type(x, "c40,2;c40,0;c0,1;c31,3;c9,2;c9,2;c9,2;c40,2;b50,50;f0,60;p1,1,1,0;j0,3,1;");
        x.laid();
        int length = x.write('y');
        while (length < 200) {
            length = x.write('y');
        }
        for (int k = 0; k < 30; k++) {
            x.pass(k < 16 ? 60 : k == 16 ? 26 : 1);
        }
        for (int k = 0; k < 8; k++) {
            x.seen(k, 2);
        }
        x.keep();
        x.keep();
        return x;
    }

    /** All that can be asked of x, then of what it does when it is used further; 250 calls at most, the last of x. */
    static String all(DamOfTurf x) {
        StringBuilder row = new StringBuilder(Check.state(x));
        int[] answers = {x.over(0), x.over(1), x.gone(0), x.gone(1), x.behind(9, 0), x.behind(9, 1), x.behind(9, 2),
            x.worn(0, 9), x.best(2, 0, 9, -1), x.best(2, 0, 9, 0), x.gap(9, 0), x.gap(9, 1), x.together(-1),
            x.together(0), x.slow(0, 9, 0), x.slow(0, 9, 1), x.fill(5), x.trodden(0, 1), x.blame(), x.flows(),
            x.odds(2, 9, 3, 0), x.odds(2, 9, 3, 1), x.night(7, 0), x.night(7, 1), x.comes(5), x.comes(999)};
        for (int answer : answers) {
            row.append(' ').append(answer);
        }
        row.append(" seen ").append(x.seen(4, 4)).append(' ').append(x.flows()).append(' ').append(x.forget());
        row.append(" letter ").append(x.write(';')).append(' ').append(x.fault());
        row.append(" acts");
        for (int left = x.undo(); left >= 0; left = x.undo()) {
            row.append(' ').append(left).append(' ').append(x.lake(1)).append(' ').append(x.cell(0, 0));
        }
        for (int left = x.back(); left >= 0; left = x.back()) {
            row.append(" back ").append(left).append(' ').append(x.count(3)).append(' ').append(x.lake(1)).append(' ')
                    .append(x.lake(2)).append(' ').append(x.cell(0, 0)).append(' ').append(x.cell(0, 1));
        }
        row.append(" put ").append(x.put(0, 3, 1)).append(x.dig(0, 1)).append(x.pass(3));
        return row.append(" laid ").append(x.laid()).append(Check.state(x)).append(x.wipe()).toString();
    }
}
