import java.util.ArrayList;
import java.util.List;
import java.util.function.ToIntFunction;

/**
 * "BAD: a number is none that is told .. NO: not as things stand. NONE: there is none. FULL. Of several the first;
 * nothing changes then." For each promise: what is refused, by which of them, and that all is as it was behind it.
 */
public final class RefusedTest {
    private static final int BAD = DamOfTurf.BAD, NO = DamOfTurf.NO, FULL = DamOfTurf.FULL, NONE = DamOfTurf.NONE;
    private static final int LEAST = Integer.MIN_VALUE, GREATEST = Integer.MAX_VALUE;

    public static void main(String[] args) {
        constants();
        for (Refusal r : refusals()) {
            r.test();
        }
        answersAreNotRefusals();
        Check.end();
    }

    private static void constants() {
        Check.same("BAD", BAD, -1);
        Check.same("NO", NO, -2);
        Check.same("FULL", FULL, -3);
        Check.same("NONE", NONE, -4);
    }

    /** A call that is refused in a state. */
    private record Refusal(String name, States state, int due, ToIntFunction<DamOfTurf> call) {
        void test() {
            DamOfTurf x = States.in(state);
            Check.same(name + " when " + state, call.applyAsInt(x), due);
            Check.same(name + " when " + state + ", again", call.applyAsInt(x), due);
            Check.same("all behind " + name + " when " + state, States.all(x), States.all(States.in(state)));
        }
    }

    private static List<Refusal> refusals() {
        List<Refusal> all = new ArrayList<>();
        for (States state : States.values()) {
            badOfBrooks(all, state);
            badOfActs(all, state);
            badOfWhatComes(all, state);
            badOfWhatShouldBe(all, state);
            badOfWhatWas(all, state);
        }
        no(all);
        none(all);
        full(all);
        badAheadOfOthers(all);
        noAheadOfFull(all);
        noAheadOfNone(all);
        return all;
    }

    private interface Call {
        int of(DamOfTurf x, int number);
    }

    /** That the numbers beside a range, and those far from it, are BAD. */
    private static void bad(List<Refusal> all, States state, String name, int least, int greatest, Call call) {
        for (int n : new int[] {least - 1, greatest + 1, LEAST, GREATEST}) {
            all.add(new Refusal(name + " " + n, state, BAD, x -> call.of(x, n)));
        }
    }

    private static int cells(States state) {
        return state == States.FULLEST ? 8 : state == States.WITHOUT ? 1 : 3;
    }

    private static void badOfBrooks(List<Refusal> all, States state) {
        int last = cells(state) - 1;
        bad(all, state, "write", 32, 126, DamOfTurf::write);
        bad(all, state, "cell of c", 0, last, (x, n) -> x.cell(n, 0));
        bad(all, state, "cell what", 0, 2, (x, n) -> x.cell(0, n));
        bad(all, state, "lake", 0, 4, DamOfTurf::lake);
        bad(all, state, "edge", 0, 1, DamOfTurf::edge);
        bad(all, state, "comes", 1, 999, DamOfTurf::comes);
        bad(all, state, "count", 0, 6, DamOfTurf::count);
    }

    private static void badOfActs(List<Refusal> all, States state) {
        int last = cells(state) - 1;
        bad(all, state, "put at c", 0, last, (x, n) -> x.put(n, 0, 1));
        bad(all, state, "put stuff", 0, 3, (x, n) -> x.put(0, n, 1));
        bad(all, state, "put n", 1, 9, (x, n) -> x.put(0, 0, n));
        bad(all, state, "dig at c", 0, last, (x, n) -> x.dig(n, 1));
        bad(all, state, "dig n", 1, 9, (x, n) -> x.dig(0, n));
        bad(all, state, "pass", 1, 60, DamOfTurf::pass);
    }

    private static void badOfWhatComes(List<Refusal> all, States state) {
        int last = cells(state) - 1;
        bad(all, state, "behind n", 0, 200, (x, n) -> x.behind(n, 0));
        bad(all, state, "behind what", 0, 2, (x, n) -> x.behind(0, n));
        bad(all, state, "worn c", 0, last, (x, n) -> x.worn(n, 0));
        bad(all, state, "worn n", 0, 200, (x, n) -> x.worn(0, n));
        bad(all, state, "over", 0, 1, DamOfTurf::over);
        bad(all, state, "gone", 0, 1, DamOfTurf::gone);
    }

    private static void badOfWhatShouldBe(List<Refusal> all, States state) {
        int last = cells(state) - 1;
        int jobs = state == States.NEW ? 2 : state == States.BUSY ? 3 : state == States.FULLEST ? 1 : 0;
        bad(all, state, "best m", 1, 5, (x, n) -> x.best(n, 2, 1, -1));
        bad(all, state, "best stuff", 0, 3, (x, n) -> x.best(1, n, 1, -1));
        bad(all, state, "best n", 1, 60, (x, n) -> x.best(1, 2, n, -1));
        bad(all, state, "best c", -1, last, (x, n) -> x.best(1, 2, 1, n));
        bad(all, state, "gap n", 1, 60, (x, n) -> x.gap(n, 0));
        bad(all, state, "gap what", 0, 1, (x, n) -> x.gap(1, n));
        bad(all, state, "together", -1, jobs - 1, DamOfTurf::together);
        bad(all, state, "slow c", 0, last, (x, n) -> x.slow(n, 0, 0));
        bad(all, state, "slow u", 0, 999, (x, n) -> x.slow(0, n, 0));
        bad(all, state, "slow what", 0, 1, (x, n) -> x.slow(0, 0, n));
        bad(all, state, "fill", 1, 40, DamOfTurf::fill);
        bad(all, state, "trodden c", 0, last, (x, n) -> x.trodden(n, 1));
        bad(all, state, "trodden n", 1, 9, (x, n) -> x.trodden(0, n));
    }

    private static void badOfWhatWas(List<Refusal> all, States state) {
        bad(all, state, "seen h", 0, 60, (x, n) -> x.seen(n, 1));
        bad(all, state, "seen n", 1, 99, (x, n) -> x.seen(0, n));
        bad(all, state, "odds n", 0, 5, (x, n) -> x.odds(n, 0, 0, 0));
        bad(all, state, "odds a", 0, 30, (x, n) -> x.odds(0, n, 0, 0));
        bad(all, state, "odds x", 0, 10, (x, n) -> x.odds(0, 0, n, 0));
        bad(all, state, "odds part", 0, 1, (x, n) -> x.odds(0, 0, 0, n));
        bad(all, state, "night z", 0, 9999, (x, n) -> x.night(n, 0));
        bad(all, state, "night what", 0, 1, (x, n) -> x.night(0, n));
    }

    /** "NO: not as things stand." */
    private static void no(List<Refusal> all) {
        all.add(new Refusal("laid of no text", States.NEW, NO, DamOfTurf::laid));
        all.add(new Refusal("laid of a fault", States.BUSY, NO, DamOfTurf::laid));
        all.add(new Refusal("laid of letters behind it", States.FULLEST, NO, DamOfTurf::laid));
        all.add(new Refusal("laid of what was wiped", States.WITHOUT, NO, DamOfTurf::laid));
        all.add(new Refusal("put above 40", States.WITHOUT, NO, x -> x.put(0, 0, 1)));
        all.add(new Refusal("put far above 40", States.WITHOUT, NO, x -> x.put(0, 3, 9)));
        all.add(new Refusal("dig more than there is", States.BUSY, NO, x -> x.dig(2, 6)));
        all.add(new Refusal("undo of no ACT", States.NEW, NO, DamOfTurf::undo));
        all.add(new Refusal("undo of no ACT", States.WITHOUT, NO, DamOfTurf::undo));
        all.add(new Refusal("back to none", States.NEW, NO, DamOfTurf::back));
        all.add(new Refusal("back to none", States.WITHOUT, NO, DamOfTurf::back));
        all.add(new Refusal("trodden above 40", States.WITHOUT, NO, x -> x.trodden(0, 1)));
        all.add(new Refusal("trodden above 40", States.FULLEST, NO, x -> x.trodden(0, 9)));
    }

    /** "NONE: there is none." */
    private static void none(List<Refusal> all) {
        all.add(new Refusal("fault", States.NEW, NONE, DamOfTurf::fault));
        all.add(new Refusal("fault", States.WITHOUT, NONE, DamOfTurf::fault));
        for (int what = 0; what <= 1; what++) {
            int asked = what;
            all.add(new Refusal("over", States.WITHOUT, NONE, x -> x.over(asked)));
            all.add(new Refusal("gone", States.WITHOUT, NONE, x -> x.gone(asked)));
            all.add(new Refusal("slow", States.FULLEST, NONE, x -> x.slow(0, 0, asked)));
        }
        for (int c = -1; c <= 0; c++) {
            int asked = c;
            all.add(new Refusal("best above 40", States.WITHOUT, NONE, x -> x.best(1, 2, 1, asked)));
            all.add(new Refusal("together", States.FULLEST, NONE, x -> x.together(asked)));
        }
        all.add(new Refusal("fill", States.WITHOUT, NONE, x -> x.fill(1)));
        all.add(new Refusal("trodden", States.FULLEST, NONE, x -> x.trodden(2, 9)));
        all.add(new Refusal("blame", States.NEW, NONE, DamOfTurf::blame));
        all.add(new Refusal("blame", States.FULLEST, NONE, DamOfTurf::blame));
    }

    private static void full(List<Refusal> all) {
        for (int letter : new int[] {32, ';', 'c', 126}) {
            all.add(new Refusal("letter 201", States.FULLEST, FULL, x -> x.write(letter)));
        }
        all.add(new Refusal("put 31", States.FULLEST, FULL, x -> x.put(2, 0, 9)));
        all.add(new Refusal("put 31 to 40", States.FULLEST, FULL, x -> x.put(3, 0, 9)));
        all.add(new Refusal("dig 31", States.FULLEST, FULL, x -> x.dig(0, 9)));
        all.add(new Refusal("dig 31 to 0", States.FULLEST, FULL, x -> x.dig(4, 9)));
        all.add(new Refusal("seen 9", States.FULLEST, FULL, x -> x.seen(60, 99)));
        all.add(new Refusal("keep 3", States.FULLEST, FULL, DamOfTurf::keep));
    }

    /** "Of several the first": BAD, though it is not as things stand, or there is none, or it is full. */
    private static void badAheadOfOthers(List<Refusal> all) {
        all.add(new Refusal("write 31, full", States.FULLEST, BAD, x -> x.write(31)));
        all.add(new Refusal("put of STUFF 4 above 40", States.WITHOUT, BAD, x -> x.put(0, 4, 1)));
        all.add(new Refusal("put of ten above 40", States.WITHOUT, BAD, x -> x.put(0, 0, 10)));
        all.add(new Refusal("put of ten, full", States.FULLEST, BAD, x -> x.put(2, 0, 10)));
        all.add(new Refusal("dig of ten of nine", States.FULLEST, BAD, x -> x.dig(4, 10)));
        all.add(new Refusal("pass of 61 above 999", States.FULLEST, BAD, x -> x.pass(61)));
        all.add(new Refusal("over(2) of none", States.WITHOUT, BAD, x -> x.over(2)));
        all.add(new Refusal("gone(2) of none", States.WITHOUT, BAD, x -> x.gone(2)));
        all.add(new Refusal("best of none for 61 minutes", States.WITHOUT, BAD, x -> x.best(1, 0, 61, 0)));
        all.add(new Refusal("best of none at no CELL", States.WITHOUT, BAD, x -> x.best(1, 0, 1, 1)));
        all.add(new Refusal("together of none, no JOB", States.FULLEST, BAD, x -> x.together(1)));
        all.add(new Refusal("slow(.., 2) of none", States.FULLEST, BAD, x -> x.slow(0, 0, 2)));
        all.add(new Refusal("fill of none to 41", States.WITHOUT, BAD, x -> x.fill(41)));
        all.add(new Refusal("trodden of ten above 40", States.WITHOUT, BAD, x -> x.trodden(0, 10)));
        all.add(new Refusal("trodden of ten, none", States.FULLEST, BAD, x -> x.trodden(2, 10)));
        all.add(new Refusal("seen of 61, full", States.FULLEST, BAD, x -> x.seen(61, 99)));
        all.add(new Refusal("seen of 0 minutes, full", States.FULLEST, BAD, x -> x.seen(60, 0)));
    }

    /** "Of several the first": NO, though thirty ACTS are done. */
    private static void noAheadOfFull(List<Refusal> all) {
        all.add(new Refusal("put above 40, full", States.FULLEST, NO, x -> x.put(0, 0, 1)));
        all.add(new Refusal("put above 40 by nine, full", States.FULLEST, NO, x -> x.put(7, 0, 9)));
        all.add(new Refusal("dig of none, full", States.FULLEST, NO, x -> x.dig(2, 1)));
        all.add(new Refusal("pass above 999, full", States.FULLEST, NO, x -> x.pass(1)));
        all.add(new Refusal("pass far above 999, full", States.FULLEST, NO, x -> x.pass(60)));
    }

    /** "Of several the first": NO, though GONE is none. */
    private static void noAheadOfNone(List<Refusal> all) {
        all.add(new Refusal("trodden above 40, none", States.FULLEST, NO, x -> x.trodden(0, 1)));
        all.add(new Refusal("trodden above 40 by MUD, none", States.FULLEST, NO, x -> x.trodden(1, 1)));
    }

    /** That the states are those that are meant. */
    private static void answersAreNotRefusals() {
        DamOfTurf x = States.in(States.FULLEST);
        int[] counts = {8, 1, 1, 30, 8, 2, 200};
        for (int what = 0; what <= 6; what++) {
            Check.same("count(" + what + ") of the fullest", x.count(what), counts[what]);
        }
        Check.same("minutes of the fullest", x.lake(2), 999);
        Check.same("gone(0) of the fullest", x.gone(0), NONE);
        DamOfTurf y = States.in(States.BUSY);
        Check.same("ACTS when busy", y.count(3), 4);
        Check.same("water when busy", y.lake(1) > 0 ? 1 : 0, 1);
        Check.same("seeped when busy", y.lake(4) > 0 ? 1 : 0, 1);
        Check.same("over when busy", y.lake(3) > 0 ? 1 : 0, 1);
        Check.same("worn when busy", y.blame() == NONE && y.gone(0) == NONE ? 0 : 1, 1);
        String busy = States.all(States.in(States.BUSY));
        Check.same("a call does change what all() tells", busy.equals(States.all(used())) ? 1 : 0, 0);
    }

    private static DamOfTurf used() {
        DamOfTurf x = States.in(States.BUSY);
        x.seen(0, 1);
        return x;
    }
}
