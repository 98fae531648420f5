import java.util.ArrayList;
import java.util.List;
import java.util.function.ToIntFunction;

/**
 * "BAD: a number is none that is told .. NO: not as things stand. NONE: there is none. FULL. Of several the first;
 * nothing changes then." For each promise: what is refused, by which of them, and that all is as it was behind it.
 */
public final class RefusedTest {
    private static final int BAD = DamOfTurf.BAD, NO = DamOfTurf.NO, FULL = DamOfTurf.FULL, NONE = DamOfTurf.NONE;
    private static final int LEAST = Integer.MIN_VALUE, GREATEST = Integer.MAX_VALUE;

    public static void main(String[] args) {
        constants();
        for (Refusal r : refusals()) {
            r.test();
        }
        answersAreNotRefusals();
        Check.end();
    }

    private static void constants() {
        Check.same("BAD", BAD, -1);
        Check.same("NO", NO, -2);
        Check.same("FULL", FULL, -3);
        Check.same("NONE", NONE, -4);
    }

    /** A state to refuse a call in. */
    private enum State { NEW, BUSY, FULLEST, WITHOUT }

    /** A new object on which that state was brought about, always by the same calls. */
    private static DamOfTurf in(State state) {
        DamOfTurf x = new DamOfTurf();
        switch (state) {
            case NEW:
                return x;
            case BUSY:
                Check.type(x, "c9,1;c4,0;c7,3;b8,30;a3,2;f0,5;f9,40;r4,60,3;p1,2,3,0;p2,0,1,0;j0,0,5;j1,2,9;j2,1,7;");
                x.laid();
                x.wipe();
                Check.type(x, "c3,2;c4");
                x.pass(9);
                x.put(1, 2, 3);
                x.keep();
                x.dig(2, 2);
                x.pass(7);
                x.seen(3, 4);
                x.seen(1, 1);
                return x;
            case FULLEST:
                Check.type(x, "c40,2;c40,0;c0,1;c31,3;c9,2;c9,2;c9,2;c40,2;b50,50;f0,60;p1,1,1,0;j0,3,1;");
                x.laid();
                while (x.write('y') != FULL) {
                    x.count(6);
                }
                for (int k = 0; k < 30; k++) {
                    x.pass(k < 16 ? 60 : k == 16 ? 26 : 1);
                }
                for (int k = 0; k < 8; k++) {
                    x.seen(k, 2);
                }
                x.keep();
                x.keep();
                return x;
            default:
                Check.type(x, "c40,2;");
                x.laid();
                x.wipe();
                return x;
        }
    }

    /** All that can be asked of x, then of what it does when it is used further; x is worn out then. */
    private static String all(DamOfTurf x) {
        StringBuilder row = new StringBuilder(Check.state(x));
        int[] answers = {x.over(0), x.over(1), x.gone(0), x.gone(1), x.behind(9, 0), x.behind(9, 1), x.behind(9, 2),
            x.worn(0, 9), x.best(2, 0, 9, -1), x.best(2, 0, 9, 0), x.gap(9, 0), x.gap(9, 1), x.together(-1),
            x.together(0), x.slow(0, 9, 0), x.slow(0, 9, 1), x.fill(5), x.trodden(0, 1), x.blame(), x.flows(),
            x.odds(2, 9, 3, 0), x.odds(2, 9, 3, 1), x.night(7, 0), x.night(7, 1), x.comes(5), x.comes(999)};
        for (int answer : answers) {
            row.append(' ').append(answer);
        }
        row.append(" seen ").append(x.seen(4, 4)).append(' ').append(x.flows()).append(' ').append(x.forget());
        row.append(" letter ").append(x.write(';')).append(' ').append(x.fault());
        row.append(" acts");
        for (int left = x.undo(); left >= 0; left = x.undo()) {
            row.append(' ').append(left).append(' ').append(x.lake(1)).append(' ').append(x.cell(0, 0));
        }
        for (int left = x.back(); left >= 0; left = x.back()) {
            row.append(" back ").append(Check.state(x));
        }
        row.append(" put ").append(x.put(0, 3, 1)).append(x.dig(0, 1)).append(x.pass(3));
        return row.append(" laid ").append(x.laid()).append(Check.state(x)).append(x.wipe()).toString();
    }

    /** A call that is refused in a state. */
    private record Refusal(String name, State state, int due, ToIntFunction<DamOfTurf> call) {
        void test() {
            DamOfTurf x = in(state);
            Check.same(name + " when " + state, call.applyAsInt(x), due);
            Check.same(name + " when " + state + ", again", call.applyAsInt(x), due);
            Check.same("all behind " + name + " when " + state, all(x), all(in(state)));
        }
    }

    private static List<Refusal> refusals() {
        List<Refusal> all = new ArrayList<>();
        for (State state : State.values()) {
            badOfBrooks(all, state);
            badOfActs(all, state);
            badOfWhatComes(all, state);
            badOfWhatShouldBe(all, state);
            badOfWhatWas(all, state);
        }
        no(all);
        none(all);
        full(all);
        badAheadOfOthers(all);
        noAheadOfFull(all);
        noAheadOfNone(all);
        return all;
    }

    private interface Call {
        int of(DamOfTurf x, int number);
    }

    /** That the numbers beside a range, and those far from it, are BAD. */
    private static void bad(List<Refusal> all, State state, String name, int least, int greatest, Call call) {
        for (int n : new int[] {least - 1, greatest + 1, LEAST, GREATEST}) {
            all.add(new Refusal(name + " " + n, state, BAD, x -> call.of(x, n)));
        }
    }

    private static int cells(State state) {
        return state == State.FULLEST ? 8 : state == State.WITHOUT ? 1 : 3;
    }

    private static void badOfBrooks(List<Refusal> all, State state) {
        int last = cells(state) - 1;
        bad(all, state, "write", 32, 126, DamOfTurf::write);
        bad(all, state, "cell of c", 0, last, (x, n) -> x.cell(n, 0));
        bad(all, state, "cell what", 0, 2, (x, n) -> x.cell(0, n));
        bad(all, state, "lake", 0, 4, DamOfTurf::lake);
        bad(all, state, "edge", 0, 1, DamOfTurf::edge);
        bad(all, state, "comes", 1, 999, DamOfTurf::comes);
        bad(all, state, "count", 0, 6, DamOfTurf::count);
    }

    private static void badOfActs(List<Refusal> all, State state) {
        int last = cells(state) - 1;
        bad(all, state, "put at c", 0, last, (x, n) -> x.put(n, 0, 1));
        bad(all, state, "put stuff", 0, 3, (x, n) -> x.put(0, n, 1));
        bad(all, state, "put n", 1, 9, (x, n) -> x.put(0, 0, n));
        bad(all, state, "dig at c", 0, last, (x, n) -> x.dig(n, 1));
        bad(all, state, "dig n", 1, 9, (x, n) -> x.dig(0, n));
        bad(all, state, "pass", 1, 60, DamOfTurf::pass);
    }

    private static void badOfWhatComes(List<Refusal> all, State state) {
        int last = cells(state) - 1;
        bad(all, state, "behind n", 0, 200, (x, n) -> x.behind(n, 0));
        bad(all, state, "behind what", 0, 2, (x, n) -> x.behind(0, n));
        bad(all, state, "worn c", 0, last, (x, n) -> x.worn(n, 0));
        bad(all, state, "worn n", 0, 200, (x, n) -> x.worn(0, n));
        bad(all, state, "over", 0, 1, DamOfTurf::over);
        bad(all, state, "gone", 0, 1, DamOfTurf::gone);
    }

    private static void badOfWhatShouldBe(List<Refusal> all, State state) {
        int last = cells(state) - 1;
        int jobs = state == State.NEW ? 2 : state == State.BUSY ? 3 : state == State.FULLEST ? 1 : 0;
        bad(all, state, "best m", 1, 5, (x, n) -> x.best(n, 2, 1, -1));
        bad(all, state, "best stuff", 0, 3, (x, n) -> x.best(1, n, 1, -1));
        bad(all, state, "best n", 1, 60, (x, n) -> x.best(1, 2, n, -1));
        bad(all, state, "best c", -1, last, (x, n) -> x.best(1, 2, 1, n));
        bad(all, state, "gap n", 1, 60, (x, n) -> x.gap(n, 0));
        bad(all, state, "gap what", 0, 1, (x, n) -> x.gap(1, n));
        bad(all, state, "together", -1, jobs - 1, DamOfTurf::together);
        bad(all, state, "slow c", 0, last, (x, n) -> x.slow(n, 0, 0));
        bad(all, state, "slow u", 0, 999, (x, n) -> x.slow(0, n, 0));
        bad(all, state, "slow what", 0, 1, (x, n) -> x.slow(0, 0, n));
        bad(all, state, "fill", 1, 40, DamOfTurf::fill);
        bad(all, state, "trodden c", 0, last, (x, n) -> x.trodden(n, 1));
        bad(all, state, "trodden n", 1, 9, (x, n) -> x.trodden(0, n));
    }

    private static void badOfWhatWas(List<Refusal> all, State state) {
        bad(all, state, "seen h", 0, 60, (x, n) -> x.seen(n, 1));
        bad(all, state, "seen n", 1, 99, (x, n) -> x.seen(0, n));
        bad(all, state, "odds n", 0, 5, (x, n) -> x.odds(n, 0, 0, 0));
        bad(all, state, "odds a", 0, 30, (x, n) -> x.odds(0, n, 0, 0));
        bad(all, state, "odds x", 0, 10, (x, n) -> x.odds(0, 0, n, 0));
        bad(all, state, "odds part", 0, 1, (x, n) -> x.odds(0, 0, 0, n));
        bad(all, state, "night z", 0, 9999, (x, n) -> x.night(n, 0));
        bad(all, state, "night what", 0, 1, (x, n) -> x.night(0, n));
    }

    /** "NO: not as things stand." */
    private static void no(List<Refusal> all) {
        all.add(new Refusal("laid of no text", State.NEW, NO, DamOfTurf::laid));
        all.add(new Refusal("laid of a fault", State.BUSY, NO, DamOfTurf::laid));
        all.add(new Refusal("laid of letters behind it", State.FULLEST, NO, DamOfTurf::laid));
        all.add(new Refusal("laid of what was wiped", State.WITHOUT, NO, DamOfTurf::laid));
        all.add(new Refusal("put above 40", State.WITHOUT, NO, x -> x.put(0, 0, 1)));
        all.add(new Refusal("put far above 40", State.WITHOUT, NO, x -> x.put(0, 3, 9)));
        all.add(new Refusal("dig more than there is", State.BUSY, NO, x -> x.dig(2, 6)));
        all.add(new Refusal("undo of no ACT", State.NEW, NO, DamOfTurf::undo));
        all.add(new Refusal("undo of no ACT", State.WITHOUT, NO, DamOfTurf::undo));
        all.add(new Refusal("back to none", State.NEW, NO, DamOfTurf::back));
        all.add(new Refusal("back to none", State.WITHOUT, NO, DamOfTurf::back));
        all.add(new Refusal("trodden above 40", State.WITHOUT, NO, x -> x.trodden(0, 1)));
        all.add(new Refusal("trodden above 40", State.FULLEST, NO, x -> x.trodden(0, 9)));
    }

    /** "NONE: there is none." */
    private static void none(List<Refusal> all) {
        all.add(new Refusal("fault", State.NEW, NONE, DamOfTurf::fault));
        all.add(new Refusal("fault", State.WITHOUT, NONE, DamOfTurf::fault));
        for (int what = 0; what <= 1; what++) {
            int asked = what;
            all.add(new Refusal("over", State.WITHOUT, NONE, x -> x.over(asked)));
            all.add(new Refusal("gone", State.WITHOUT, NONE, x -> x.gone(asked)));
            all.add(new Refusal("slow", State.FULLEST, NONE, x -> x.slow(0, 0, asked)));
        }
        for (int c = -1; c <= 0; c++) {
            int asked = c;
            all.add(new Refusal("best above 40", State.WITHOUT, NONE, x -> x.best(1, 2, 1, asked)));
            all.add(new Refusal("together", State.FULLEST, NONE, x -> x.together(asked)));
        }
        all.add(new Refusal("fill", State.WITHOUT, NONE, x -> x.fill(1)));
        all.add(new Refusal("trodden", State.FULLEST, NONE, x -> x.trodden(2, 9)));
        all.add(new Refusal("blame", State.NEW, NONE, DamOfTurf::blame));
        all.add(new Refusal("blame", State.FULLEST, NONE, DamOfTurf::blame));
    }

    private static void full(List<Refusal> all) {
        for (int letter : new int[] {32, ';', 'c', 126}) {
            all.add(new Refusal("letter 201", State.FULLEST, FULL, x -> x.write(letter)));
        }
        all.add(new Refusal("put 31", State.FULLEST, FULL, x -> x.put(2, 0, 9)));
        all.add(new Refusal("put 31 to 40", State.FULLEST, FULL, x -> x.put(3, 0, 9)));
        all.add(new Refusal("dig 31", State.FULLEST, FULL, x -> x.dig(0, 9)));
        all.add(new Refusal("dig 31 to 0", State.FULLEST, FULL, x -> x.dig(4, 9)));
        all.add(new Refusal("seen 9", State.FULLEST, FULL, x -> x.seen(60, 99)));
        all.add(new Refusal("keep 3", State.FULLEST, FULL, DamOfTurf::keep));
    }

    /** "Of several the first": BAD, though it is not as things stand, or there is none, or it is full. */
    private static void badAheadOfOthers(List<Refusal> all) {
        all.add(new Refusal("write 31, full", State.FULLEST, BAD, x -> x.write(31)));
        all.add(new Refusal("put of STUFF 4 above 40", State.WITHOUT, BAD, x -> x.put(0, 4, 1)));
        all.add(new Refusal("put of ten above 40", State.WITHOUT, BAD, x -> x.put(0, 0, 10)));
        all.add(new Refusal("put of ten, full", State.FULLEST, BAD, x -> x.put(2, 0, 10)));
        all.add(new Refusal("dig of ten of nine", State.FULLEST, BAD, x -> x.dig(4, 10)));
        all.add(new Refusal("pass of 61 above 999", State.FULLEST, BAD, x -> x.pass(61)));
        all.add(new Refusal("over(2) of none", State.WITHOUT, BAD, x -> x.over(2)));
        all.add(new Refusal("gone(2) of none", State.WITHOUT, BAD, x -> x.gone(2)));
        all.add(new Refusal("best of none for 61 minutes", State.WITHOUT, BAD, x -> x.best(1, 0, 61, 0)));
        all.add(new Refusal("best of none at no CELL", State.WITHOUT, BAD, x -> x.best(1, 0, 1, 1)));
        all.add(new Refusal("together of none, no JOB", State.FULLEST, BAD, x -> x.together(1)));
        all.add(new Refusal("slow(.., 2) of none", State.FULLEST, BAD, x -> x.slow(0, 0, 2)));
        all.add(new Refusal("fill of none to 41", State.WITHOUT, BAD, x -> x.fill(41)));
        all.add(new Refusal("trodden of ten above 40", State.WITHOUT, BAD, x -> x.trodden(0, 10)));
        all.add(new Refusal("trodden of ten, none", State.FULLEST, BAD, x -> x.trodden(2, 10)));
        all.add(new Refusal("seen of 61, full", State.FULLEST, BAD, x -> x.seen(61, 99)));
        all.add(new Refusal("seen of 0 minutes, full", State.FULLEST, BAD, x -> x.seen(60, 0)));
    }

    /** "Of several the first": NO, though thirty ACTS are done. */
    private static void noAheadOfFull(List<Refusal> all) {
        all.add(new Refusal("put above 40, full", State.FULLEST, NO, x -> x.put(0, 0, 1)));
        all.add(new Refusal("put above 40 by nine, full", State.FULLEST, NO, x -> x.put(7, 0, 9)));
        all.add(new Refusal("dig of none, full", State.FULLEST, NO, x -> x.dig(2, 1)));
        all.add(new Refusal("pass above 999, full", State.FULLEST, NO, x -> x.pass(1)));
        all.add(new Refusal("pass far above 999, full", State.FULLEST, NO, x -> x.pass(60)));
    }

    /** "Of several the first": NO, though GONE is none. */
    private static void noAheadOfNone(List<Refusal> all) {
        all.add(new Refusal("trodden above 40, none", State.FULLEST, NO, x -> x.trodden(0, 1)));
        all.add(new Refusal("trodden above 40 by MUD, none", State.FULLEST, NO, x -> x.trodden(1, 1)));
    }

    /** That the states are those that are meant. */
    private static void answersAreNotRefusals() {
        DamOfTurf x = in(State.FULLEST);
        int[] counts = {8, 1, 1, 30, 8, 2, 200};
        for (int what = 0; what <= 6; what++) {
            Check.same("count(" + what + ") of the fullest", x.count(what), counts[what]);
        }
        Check.same("minutes of the fullest", x.lake(2), 999);
        Check.same("gone(0) of the fullest", x.gone(0), NONE);
        DamOfTurf y = in(State.BUSY);
        Check.same("ACTS when busy", y.count(3), 4);
        Check.same("water when busy", y.lake(1) > 0 ? 1 : 0, 1);
        Check.same("seeped when busy", y.lake(4) > 0 ? 1 : 0, 1);
        Check.same("over when busy", y.lake(3) > 0 ? 1 : 0, 1);
        Check.same("worn when busy", y.blame() == NONE && y.gone(0) == NONE ? 0 : 1, 1);
        Check.same("a call does change what all() tells", all(in(State.BUSY)).equals(all(used())) ? 1 : 0, 0);
    }

    private static DamOfTurf used() {
        DamOfTurf x = in(State.BUSY);
        x.seen(0, 1);
        return x;
    }
}
