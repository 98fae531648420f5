import java.math.BigInteger;
import java.util.ArrayList;
import java.util.List;
import java.util.regex.Matcher;
import java.util.regex.Pattern;

/** The document once more, written as slowly and literally as can be, to compare answers with. */
final class Model {
    private static final int BAD = -1, NO = -2, FULL = -3, NONE = -4;

    private record Cell(int height, int stuff, int breached) {
    }

    private record Act(char kind, int cell, int stuff, int n) {
    }

    private record Span(int from, int to, int units) {
    }

    private record Job(int stuff, int inches) {
    }

    /** What a text tells. */
    private static final class Told {
        final List<Cell> cells = new ArrayList<>();
        final List<int[]> flows = new ArrayList<>();
        final List<Span> rains = new ArrayList<>();
        final List<int[]> children = new ArrayList<>();
        final List<Job> jobs = new ArrayList<>();
        int left = 20;
        int right = 20;
        int least = 6;
        int more = 1;
    }

    /** The dam at some minute; each change makes another. */
    private static final class World {
        final List<Cell> cells = new ArrayList<>();
        int units;
        int minute;
        int over;
        int seeped;
        int overNow;
        int overAt;
        int breachedNow = NONE;

        World copy() {
            World w = new World();
            w.cells.addAll(cells);
            w.units = units;
            w.minute = minute;
            w.over = over;
            w.seeped = seeped;
            return w;
        }
    }

    private String text = "";
    private Told told;
    private List<Act> acts = new ArrayList<>();
    private final List<List<Act>> kept = new ArrayList<>();
    private final List<int[]> sightings = new ArrayList<>();

    Model() {
        told = read("c10,0;c8,1;c12,3;b20,20;a6,1;f0,9;p3,1,0,2;p1,2,1,0;j0,0,6;j1,1,4;", new int[1]);
    }

    private static boolean in(int x, int least, int most) {
        return least <= x && x <= most;
    }

    private static Told read(String text, int[] fault) {
        Told t = new Told();
        Pattern item = Pattern.compile("([a-z])([0-9][0-9]?(,[0-9][0-9]?)*);");
        int at = 0;
        fault[0] = NONE;
        while (at < text.length()) {
            Matcher m = item.matcher(text).region(at, text.length());
            if (!m.lookingAt()) {
                fault[0] = at;
                return t;
            }
            String[] parts = m.group(2).split(",");
            int[] n = new int[parts.length];
            for (int k = 0; k < n.length; k++) {
                n[k] = Integer.parseInt(parts[k]);
            }
            if (!take(t, m.group(1).charAt(0), n)) {
                fault[0] = at;
                return t;
            }
            at = m.end();
        }
        return t;
    }

    private static boolean take(Told t, char letter, int[] n) {
        String lengths = "c2b2a2f2r3p4j3";
        int where = lengths.indexOf(letter);
        if (where < 0 || lengths.charAt(where + 1) - '0' != n.length) {
            return false;
        }
        if (letter == 'c') {
            t.cells.add(new Cell(n[0], n[1], 0));
            return n[0] <= 40 && n[1] <= 3 && t.cells.size() <= 8;
        }
        if (letter == 'b') {
            t.left = n[0];
            t.right = n[1];
            return n[0] <= 50 && n[1] <= 50;
        }
        if (letter == 'a') {
            t.least = n[0];
            t.more = n[1];
            return in(n[0], 1, 20) && in(n[1], 0, 5);
        }
        if (letter == 'f') {
            t.flows.add(n);
            return in(n[1], 0, 60) && t.flows.size() <= 4;
        }
        if (letter == 'r') {
            t.rains.add(new Span(n[0], n[1], n[2]));
            return n[0] <= n[1] && n[2] <= 30 && t.rains.size() <= 4;
        }
        if (letter == 'p') {
            t.children.add(n);
            return n[0] <= 9 && n[1] <= 9 && n[2] <= 9 && n[3] <= 9 && t.children.size() <= 4;
        }
        t.jobs.add(new Job(n[1], n[2]));
        return n[0] < t.cells.size() && n[1] <= 3 && in(n[2], 1, 30) && t.jobs.size() <= 5;
    }

    private World start() {
        World w = new World();
        w.cells.addAll(told.cells);
        return w;
    }

    private World replay(List<Act> all) {
        World w = start();
        for (Act a : all) {
            w = act(w, a);
        }
        return w;
    }

    private World now() {
        return replay(acts);
    }

    private boolean possible(World w, Act a) {
        if (a.kind == 'l') {
            return w.cells.get(a.cell).height + a.n <= 40;
        }
        return a.kind == 'd' ? w.cells.get(a.cell).height >= a.n : w.minute + a.n <= 999;
    }

    private World act(World w, Act a) {
        if (!possible(w, a)) {
            return w;
        }
        if (a.kind == 'm') {
            return run(w, a.n);
        }
        World next = w.copy();
        Cell c = w.cells.get(a.cell);
        next.cells.set(a.cell, a.kind == 'l' ? new Cell(c.height + a.n, a.stuff, c.breached)
                : new Cell(c.height - a.n, c.stuff, c.breached));
        return next;
    }

    private World run(World w, int n) {
        World v = w;
        for (int k = 0; k < n; k++) {
            v = minute(v, 0);
        }
        return v;
    }

    private int takes(int h) {
        int all = 0;
        for (int k = 1; k <= h; k++) {
            all += told.least + told.more * k;
        }
        return all;
    }

    private int level(int units) {
        int h = 0;
        while (h < 60 && takes(h + 1) <= units) {
            h++;
        }
        return h;
    }

    private int edgeOf(World w) {
        int low = Math.min(told.left, told.right);
        for (Cell c : w.cells) {
            low = Math.min(low, c.height);
        }
        return low;
    }

    private int placeOf(World w) {
        int low = edgeOf(w);
        for (int c = 0; c < w.cells.size(); c++) {
            if (w.cells.get(c).height == low) {
                return c;
            }
        }
        return told.left == low ? 8 : 9;
    }

    private int flowing(int t) {
        int from = -1;
        int units = 0;
        for (int[] f : told.flows) {
            if (f[0] <= t && f[0] >= from) {
                from = f[0];
                units = f[1];
            }
        }
        for (Span r : told.rains) {
            if (in(t, r.from, r.to)) {
                units += r.units;
            }
        }
        return units;
    }

    private World minute(World before, int more) {
        World w = before.copy();
        w.minute++;
        w.units += flowing(w.minute) + more;
        int level = level(w.units);
        for (Cell c : w.cells) {
            if (c.height > 0) {
                int wants = c.stuff == 1 ? level / 8 : c.stuff == 3 ? level / 3 : 0;
                int seeps = Math.min(wants, w.units);
                w.units -= seeps;
                w.seeped += seeps;
            }
        }
        int most = takes(edgeOf(w));
        if (w.units > most) {
            w.overNow = w.units - most;
            w.overAt = placeOf(w);
            w.over += w.overNow;
            w.units = most;
            if (w.overAt < 8) {
                Cell c = w.cells.get(w.overAt);
                int lower = c.stuff == 0 ? 2 : c.stuff == 1 && w.minute % 2 == 0 ? 1 : 0;
                int height = Math.max(0, c.height - lower);
                boolean breached = c.height > 0 && height == 0;
                w.cells.set(w.overAt, new Cell(height, c.stuff, c.breached + (breached ? 1 : 0)));
                w.breachedNow = breached ? w.overAt : NONE;
            }
        }
        return w;
    }

    int write(int letter) {
        if (!in(letter, 32, 126)) {
            return BAD;
        }
        if (text.length() == 200) {
            return FULL;
        }
        text += (char) letter;
        return text.length();
    }

    int wipe() {
        int was = text.length();
        text = "";
        return was;
    }

    int fault() {
        int[] fault = new int[1];
        read(text, fault);
        return fault[0];
    }

    int laid() {
        int[] fault = new int[1];
        Told t = read(text, fault);
        if (fault[0] != NONE || t.cells.isEmpty()) {
            return NO;
        }
        told = t;
        acts.clear();
        kept.clear();
        sightings.clear();
        return t.cells.size();
    }

    private boolean noCell(int c) {
        return !in(c, 0, told.cells.size() - 1);
    }

    int cell(int c, int what) {
        if (noCell(c) || !in(what, 0, 2)) {
            return BAD;
        }
        Cell x = now().cells.get(c);
        return what == 0 ? x.height : what == 1 ? x.stuff : x.breached;
    }

    int lake(int what) {
        if (!in(what, 0, 4)) {
            return BAD;
        }
        World w = now();
        return new int[] {level(w.units), w.units, w.minute, w.over, w.seeped}[what];
    }

    int edge(int what) {
        return what == 0 ? edgeOf(now()) : what == 1 ? placeOf(now()) : BAD;
    }

    int comes(int t) {
        return in(t, 1, 999) ? flowing(t) : BAD;
    }

    private int doAct(Act a) {
        if (!possible(now(), a)) {
            return NO;
        }
        if (acts.size() == 30) {
            return FULL;
        }
        acts.add(a);
        return a.kind == 'm' ? lake(0) : cell(a.cell, 0);
    }

    int put(int c, int stuff, int n) {
        return noCell(c) || !in(stuff, 0, 3) || !in(n, 1, 9) ? BAD : doAct(new Act('l', c, stuff, n));
    }

    int dig(int c, int n) {
        return noCell(c) || !in(n, 1, 9) ? BAD : doAct(new Act('d', c, 0, n));
    }

    int pass(int n) {
        return !in(n, 1, 60) ? BAD : doAct(new Act('m', 0, 0, n));
    }

    int undo() {
        if (acts.isEmpty()) {
            return NO;
        }
        acts.remove(acts.size() - 1);
        return acts.size();
    }

    int behind(int n, int what) {
        if (!in(n, 0, 200) || !in(what, 0, 2)) {
            return BAD;
        }
        World w = run(now(), n);
        return what == 0 ? level(w.units) : what == 1 ? w.units : w.over - now().over;
    }

    int worn(int c, int n) {
        return noCell(c) || !in(n, 0, 200) ? BAD : run(now(), n).cells.get(c).height;
    }

    int over(int what) {
        if (!in(what, 0, 1)) {
            return BAD;
        }
        World w = now();
        for (int k = 1; k <= 200; k++) {
            w = minute(w, 0);
            if (w.overNow > 0) {
                return what == 0 ? k : w.overAt;
            }
        }
        return NONE;
    }

    private int goneFrom(World first, int what) {
        World w = first;
        for (int k = 1; k <= 200; k++) {
            w = minute(w, 0);
            if (w.breachedNow != NONE) {
                return what == 0 ? k : w.breachedNow;
            }
        }
        return NONE;
    }

    int gone(int what) {
        return in(what, 0, 1) ? goneFrom(now(), what) : BAD;
    }

    int best(int m, int stuff, int n, int c) {
        if (!in(m, 1, 5) || !in(stuff, 0, 3) || !in(n, 1, 60) || c != -1 && noCell(c)) {
            return BAD;
        }
        int[] found = new int[told.cells.size() + 1];
        found[0] = NONE;
        share(now(), 0, m, stuff, n, new int[told.cells.size()], found);
        return found[0] == NONE ? NONE : found[c + 1];
    }

    private void share(World w, int c, int left, int stuff, int n, int[] way, int[] found) {
        if (c == way.length) {
            int water = left == 0 ? run(w, n).units : NONE;
            if (water > found[0]) {
                found[0] = water;
                System.arraycopy(way, 0, found, 1, way.length);
            }
            return;
        }
        for (int here = left; here >= 0; here--) {
            Act a = new Act('l', c, stuff, here);
            if (here == 0 || possible(w, a)) {
                way[c] = here;
                share(here == 0 ? w : act(w, a), c + 1, left - here, stuff, n, way, found);
            }
        }
    }

    int gap(int n, int what) {
        if (!in(n, 1, 60) || !in(what, 0, 1)) {
            return BAD;
        }
        int high = NONE;
        int where = NONE;
        for (int c = 0; c < told.cells.size(); c++) {
            for (int h = 0; h <= 40; h++) {
                World w = now().copy();
                w.cells.set(c, new Cell(h, 2, 0));
                boolean alone = true;
                for (int k = 0; k < n; k++) {
                    w = minute(w, 0);
                    alone &= w.overNow == 0 || w.overAt == c;
                }
                if (alone && h > high) {
                    high = h;
                    where = c;
                }
            }
        }
        return what == 0 ? high : where;
    }

    int together(int j) {
        if (!in(j, -1, told.jobs.size() - 1)) {
            return BAD;
        }
        int[] found = new int[6];
        found[0] = NONE;
        shareJobs(0, new int[told.children.size()], new int[told.jobs.size()], found);
        return found[0] == NONE ? NONE : found[j + 1];
    }

    private void shareJobs(int j, int[] busy, int[] who, int[] found) {
        if (j == who.length) {
            int longest = 0;
            for (int b : busy) {
                longest = Math.max(longest, b);
            }
            if (found[0] == NONE || longest < found[0]) {
                found[0] = longest;
                System.arraycopy(who, 0, found, 1, who.length);
            }
            return;
        }
        Job job = told.jobs.get(j);
        for (int child = 0; child < busy.length; child++) {
            int rate = told.children.get(child)[job.stuff];
            if (rate > 0) {
                int[] next = busy.clone();
                for (int done = 0; done < job.inches; done += rate) {
                    next[child]++;
                }
                who[j] = child;
                shareJobs(j + 1, next, who, found);
            }
        }
    }

    int slow(int c, int u, int what) {
        if (noCell(c) || !in(u, 0, 999) || !in(what, 0, 1)) {
            return BAD;
        }
        for (int m = 1; m <= 9; m++) {
            World w = now();
            boolean calm = true;
            int empty = NONE;
            for (int k = 1; k <= 60; k++) {
                if (k % m == 0) {
                    w = act(w, new Act('d', c, 0, 1));
                }
                w = minute(w, 0);
                calm &= w.overNow <= u;
                if (empty == NONE && level(w.units) == 0) {
                    empty = k;
                }
            }
            if (calm) {
                return what == 0 ? m : empty;
            }
        }
        return NONE;
    }

    int fill(int h) {
        if (!in(h, 1, 40)) {
            return BAD;
        }
        World w = now().copy();
        w.units = 0;
        for (int k = 1; k <= 200; k++) {
            w = minute(w, 0);
            if (level(w.units) >= h) {
                return k;
            }
        }
        return NONE;
    }

    int trodden(int c, int n) {
        if (noCell(c) || !in(n, 1, 9)) {
            return BAD;
        }
        World w = now();
        Act a = new Act('l', c, w.cells.get(c).stuff, n);
        if (!possible(w, a)) {
            return NO;
        }
        int one = goneFrom(w, 0);
        int other = goneFrom(act(w, a), 0);
        return one == NONE ? NONE : 200 + (other == NONE ? 200 : other) - one;
    }

    private static boolean breached(World w) {
        return w.cells.stream().anyMatch(c -> c.breached > 0);
    }

    int blame() {
        if (!breached(now())) {
            return NONE;
        }
        for (int k = 0; k < acts.size(); k++) {
            List<Act> others = new ArrayList<>(acts);
            others.remove(k);
            if (!breached(replay(others))) {
                return k;
            }
        }
        return NONE;
    }

    int seen(int h, int n) {
        if (!in(h, 0, 60) || !in(n, 1, 99)) {
            return BAD;
        }
        if (sightings.size() == 8) {
            return FULL;
        }
        sightings.add(new int[] {h, n});
        return sightings.size();
    }

    int forget() {
        int were = sightings.size();
        sightings.clear();
        return were;
    }

    int flows() {
        int bits = 0;
        for (int f = 0; f <= 30; f++) {
            boolean all = true;
            for (int[] s : sightings) {
                all &= level(f * s[1]) == s[0];
            }
            bits += all ? 1 << f : 0;
        }
        return bits;
    }

    int odds(int n, int a, int x, int part) {
        if (!in(n, 0, 5) || !in(a, 0, 30) || !in(x, 0, 10) || !in(part, 0, 1)) {
            return BAD;
        }
        BigInteger above = holds(now(), n, a, x);
        BigInteger below = BigInteger.TEN.pow(n);
        BigInteger both = above.gcd(below);
        return (part == 0 ? above : below).divide(both).intValue();
    }

    private BigInteger holds(World w, int n, int a, int x) {
        if (n == 0) {
            return BigInteger.ONE;
        }
        BigInteger all = BigInteger.ZERO;
        for (int rain = 0; rain <= 1; rain++) {
            World v = w;
            boolean holds = true;
            for (int k = 0; k < 10; k++) {
                v = minute(v, rain * a);
                holds &= v.breachedNow == NONE;
            }
            if (holds) {
                all = all.add(holds(v, n - 1, a, x).multiply(BigInteger.valueOf(rain == 1 ? x : 10 - x)));
            }
        }
        return all;
    }

    int night(int z, int what) {
        if (!in(z, 0, 9999) || !in(what, 0, 1)) {
            return BAD;
        }
        World w = now();
        int breaches = 0;
        for (int k = 1; k <= 60; k++) {
            BigInteger x = BigInteger.valueOf(7919).multiply(BigInteger.valueOf(z)).add(BigInteger.valueOf(6151L * k + 1));
            w = minute(w, x.multiply(x).mod(BigInteger.valueOf(65521)).intValue() % 16);
            breaches += w.breachedNow != NONE ? 1 : 0;
        }
        return what == 0 ? w.units : breaches;
    }

    int keep() {
        if (kept.size() == 2) {
            return FULL;
        }
        kept.add(new ArrayList<>(acts));
        return kept.size();
    }

    int back() {
        if (kept.isEmpty()) {
            return NO;
        }
        acts = kept.remove(kept.size() - 1);
        return kept.size();
    }

    int count(int what) {
        return in(what, 0, 6) ? new int[] {told.cells.size(), told.children.size(), told.jobs.size(), acts.size(),
                sightings.size(), kept.size(), text.length()}[what] : BAD;
    }
}
