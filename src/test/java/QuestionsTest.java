import java.util.ArrayList;
import java.util.List;
import java.util.function.ToIntFunction;

/**
 * "Nothing is promised beyond the answers and state changes described": a call that only asks changes nothing, nor
 * does a call on another object; and a call on the object itself changes no more than is told of it.
 */
public final class QuestionsTest {
    public static void main(String[] args) {
        for (States state : States.values()) {
            eachAlone(state);
            allOneBehindTheOther(state);
            theSameAgain(state);
            besideAnother(state);
        }
        actsLeaveTheRest();
        lettersLeaveTheRest();
        sightingsLeaveTheRest();
        Check.end();
    }

    private record Question(String name, ToIntFunction<DamOfTurf> call) {
        int ask(DamOfTurf x) {
            return call.applyAsInt(x);
        }
    }

    private interface Call {
        int of(DamOfTurf x, int number);
    }

    /** A question for each number of a range, at its ends and in between. */
    private static void add(List<Question> all, String name, int least, int greatest, Call call) {
        for (int n : new int[] {least, (least + greatest) / 2, greatest}) {
            all.add(new Question(name + " " + n, x -> call.of(x, n)));
        }
    }

    private static List<Question> questions() {
        List<Question> all = new ArrayList<>();
        all.add(new Question("fault", DamOfTurf::fault));
        all.add(new Question("blame", DamOfTurf::blame));
        all.add(new Question("flows", DamOfTurf::flows));
        add(all, "cell", 0, 2, (x, n) -> x.cell(0, n));
        add(all, "lake", 0, 4, DamOfTurf::lake);
        add(all, "edge", 0, 1, DamOfTurf::edge);
        add(all, "comes", 1, 999, DamOfTurf::comes);
        add(all, "behind", 0, 200, (x, n) -> x.behind(n, 1));
        add(all, "behind, what", 0, 2, (x, n) -> x.behind(60, n));
        add(all, "worn", 0, 200, (x, n) -> x.worn(0, n));
        add(all, "over", 0, 1, DamOfTurf::over);
        add(all, "gone", 0, 1, DamOfTurf::gone);
        add(all, "best of MUD", 1, 5, (x, n) -> x.best(n, 0, 30, -1));
        add(all, "best of SLATE", 1, 60, (x, n) -> x.best(2, 2, n, 0));
        add(all, "gap", 1, 60, (x, n) -> x.gap(n, 0));
        add(all, "gap, what", 0, 1, (x, n) -> x.gap(30, n));
        add(all, "together", -1, 0, DamOfTurf::together);
        add(all, "slow", 0, 999, (x, n) -> x.slow(0, n, 1));
        add(all, "slow, what", 0, 1, (x, n) -> x.slow(0, 30, n));
        add(all, "fill", 1, 40, DamOfTurf::fill);
        add(all, "trodden", 1, 9, (x, n) -> x.trodden(0, n));
        add(all, "odds of tens", 0, 5, (x, n) -> x.odds(n, 7, 3, 0));
        add(all, "odds of units", 0, 30, (x, n) -> x.odds(2, n, 3, 1));
        add(all, "night", 0, 9999, (x, n) -> x.night(n, 0));
        add(all, "night, what", 0, 1, (x, n) -> x.night(44, n));
        add(all, "count", 0, 6, DamOfTurf::count);
        return all;
    }

    private static void eachAlone(States state) {
        for (Question q : questions()) {
            DamOfTurf x = States.in(state);
            q.ask(x);
            Check.same("all behind " + q.name + " when " + state, States.all(x), States.all(States.in(state)));
        }
    }

    private static void allOneBehindTheOther(States state) {
        DamOfTurf x = States.in(state);
        for (Question q : questions()) {
            Check.same(q.name + " behind others when " + state, q.ask(x), q.ask(States.in(state)));
        }
        Check.same("all behind all questions when " + state, Check.state(x), Check.state(States.in(state)));
    }

    private static void theSameAgain(States state) {
        for (Question q : questions()) {
            DamOfTurf x = States.in(state);
            int first = q.ask(x);
            Check.same(q.name + " again when " + state, q.ask(x), first);
        }
    }

    /** What is asked of, and done to, one object is nothing to another. */
    private static void besideAnother(States state) {
        DamOfTurf x = States.in(state);
        DamOfTurf y = new DamOfTurf();
        Check.type(y, "c1,1;c30,0;b9,9;a1,5;f0,33;r1,9,9;p1,1,1,1;j0,1,1;");
        y.laid();
        y.pass(31);
        y.put(0, 3, 9);
        y.seen(1, 1);
        y.keep();
        for (Question q : questions()) {
            q.ask(y);
        }
        Check.same("all beside another when " + state, States.all(x), States.all(States.in(state)));
    }

    /** An ACT that is done and UNDONE, or done between keep and back, leaves nothing. */
    private static void actsLeaveTheRest() {
        for (States state : new States[] {States.NEW, States.BUSY}) {
            for (int kind = 0; kind < 3; kind++) {
                DamOfTurf x = States.in(state);
                act(x, kind);
                x.undo();
                Check.same("act " + kind + " and undo when " + state, States.all(x), States.all(States.in(state)));
                DamOfTurf y = States.in(state);
                y.keep();
                act(y, kind);
                act(y, 2 - kind);
                y.back();
                Check.same("act " + kind + " and back when " + state, States.all(y), States.all(States.in(state)));
                DamOfTurf z = States.in(state);
                act(z, kind);
                for (int what = 0; what <= 6; what++) {
                    int more = what == 3 ? 1 : 0;
                    Check.same("count(" + what + ") by act " + kind, z.count(what), States.in(state).count(what) + more);
                }
                Check.same("fault() by act " + kind, z.fault(), States.in(state).fault());
                Check.same("flows() by act " + kind, z.flows(), States.in(state).flows());
            }
        }
    }

    private static void act(DamOfTurf x, int kind) {
        int answer = kind == 0 ? x.put(1, 3, 7) : kind == 1 ? x.dig(0, 1) : x.pass(17);
        Check.same("act " + kind + " is done", answer >= 0 ? 1 : 0, 1);
    }

    /** THE TEXT is one thing, the dam that is laid another. */
    private static void lettersLeaveTheRest() {
        for (States state : new States[] {States.NEW, States.WITHOUT}) {
            DamOfTurf x = States.in(state);
            Check.type(x, "c1,1;b1,1;a1,1;f0,60;");
            x.fault();
            x.wipe();
            Check.same("all behind letters when " + state, States.all(x), States.all(States.in(state)));
        }
        DamOfTurf y = States.in(States.BUSY);
        y.wipe();
        Check.type(y, "c3,2;c4");
        Check.same("all behind the same letters", States.all(y), States.all(States.in(States.BUSY)));
    }

    private static void sightingsLeaveTheRest() {
        for (States state : new States[] {States.NEW, States.WITHOUT}) {
            DamOfTurf x = States.in(state);
            for (int k = 0; k < 9; k++) {
                x.seen(k, k + 1);
            }
            x.forget();
            Check.same("all behind what was SEEN when " + state, States.all(x), States.all(States.in(state)));
        }
    }
}
