/** A dam across a brook, told in a text: the water behind it, what is laid and dug, what comes of it. */
public final class DamOfTurf {
    public static final int BAD = -1, NO = -2, FULL = -3, NONE = -4;

    private static final int MUD = 0, TURF = 1, SLATE = 2, STONE = 3;
    private static final int LAY = 0, DIG = 1, MINUTES = 2;
    private static final int LEFT_BANK = 8, RIGHT_BANK = 9;
    private static final int HIGHEST_CELL = 40, HIGHEST_BANK = 50, HIGHEST_LEVEL = 60;
    private static final int MOST_LETTERS = 200, MOST_NUMBERS = 4;
    private static final int MOST_CELLS = 8, MOST_FLOWS = 4, MOST_RAINS = 4;
    private static final int MOST_CHILDREN = 4, MOST_JOBS = 5, STUFFS = 4;
    private static final int MOST_ACTS = 30, MOST_KEPT = 2, MOST_SEEN = 8;
    /** Five inches can be shared out among eight cells in 792 ways. */
    private static final int MOST_WAYS = 1000;
    private static final int LONGEST = 999, LONGEST_ACT = 60, FAR = 200, HOUR = 60;
    /** From this minute on nothing that the text tells of the brook changes any more. */
    private static final int STEADY = 100;
    private static final String FIRST_TEXT =
            "c10,0;c8,1;c12,3;b20,20;a6,1;f0,9;p3,1,0,2;p1,2,1,0;j0,0,6;j1,1,4;";

    private final Text text;
    private final Plan plan;
    /** Takes a text only to see whether it has a fault. */
    private final Plan draft;
    private final Dam now;
    /** A dam to try things on; each question sets it up anew. */
    private final Dam trial;
    private final Acts acts;
    private final Acts[] kept;
    private int keptCount;
    private final Sightings sightings;
    private final Shares shares;
    private final Shares bestShares;

    // ---- brooks

    public DamOfTurf() {
        text = new Text();
        plan = new Plan();
        draft = new Plan();
        now = new Dam(plan);
        trial = new Dam(plan);
        acts = new Acts();
        kept = new Acts[MOST_KEPT];
        for (int k = 0; k < MOST_KEPT; k++) {
            kept[k] = new Acts();
        }
        sightings = new Sightings();
        shares = new Shares();
        bestShares = new Shares();
        for (int k = 0; k < FIRST_TEXT.length(); k++) {
            text.add(FIRST_TEXT.charAt(k));
        }
        plan.readFrom(text);
        text.clear();
        now.startAnew();
    }

    public int write(int letter) {
        if (!isWithin(letter, 32, 126)) {
            return BAD;
        }
        return text.add(letter) ? text.size() : FULL;
    }

    public int wipe() {
        int was = text.size();
        text.clear();
        return was;
    }

    public int fault() {
        return draft.readFrom(text);
    }

    public int laid() {
        if (draft.readFrom(text) != NONE || draft.cellCount() == 0) {
            return NO;
        }
        plan.readFrom(text);
        acts.clear();
        keptCount = 0;
        sightings.clear();
        now.startAnew();
        return plan.cellCount();
    }

    public int cell(int c, int what) {
        if (!isCell(c)) {
            return BAD;
        }
        switch (what) {
            case 0: return now.heightAt(c);
            case 1: return now.stuffAt(c);
            case 2: return now.breachesAt(c);
            default: return BAD;
        }
    }

    public int lake(int what) {
        switch (what) {
            case 0: return now.level();
            case 1: return now.units();
            case 2: return now.minutesGone();
            case 3: return now.allOver();
            case 4: return now.allSeeped();
            default: return BAD;
        }
    }

    public int edge(int what) {
        switch (what) {
            case 0: return now.edgeHeight();
            case 1: return now.lowestPlace();
            default: return BAD;
        }
    }

    public int comes(int t) {
        return isWithin(t, 1, LONGEST) ? plan.brook().comesIn(t) : BAD;
    }

    // ---- acts

    public int put(int c, int stuff, int n) {
        if (!isCell(c) || !isStuff(stuff) || !isWithin(n, 1, 9)) {
            return BAD;
        }
        if (!now.canRaise(c, n)) {
            return NO;
        }
        if (!acts.add(LAY, c, stuff, n)) {
            return FULL;
        }
        now.layAt(c, stuff, n);
        return now.heightAt(c);
    }

    public int dig(int c, int n) {
        if (!isCell(c) || !isWithin(n, 1, 9)) {
            return BAD;
        }
        if (!now.canDig(c, n)) {
            return NO;
        }
        if (!acts.add(DIG, c, MUD, n)) {
            return FULL;
        }
        now.digAt(c, n);
        return now.heightAt(c);
    }

    public int pass(int n) {
        if (!isWithin(n, 1, LONGEST_ACT)) {
            return BAD;
        }
        if (!now.canPass(n)) {
            return NO;
        }
        if (!acts.add(MINUTES, 0, MUD, n)) {
            return FULL;
        }
        now.letPass(n, 0);
        return now.level();
    }

    public int undo() {
        if (acts.size() == 0) {
            return NO;
        }
        acts.dropLast();
        acts.doAllBut(NONE, now);
        return acts.size();
    }

    // ---- what comes

    public int behind(int n, int what) {
        if (!isWithin(n, 0, FAR) || !isWithin(what, 0, 2)) {
            return BAD;
        }
        trial.copyFrom(now);
        trial.letPass(n, 0);
        switch (what) {
            case 0: return trial.level();
            case 1: return trial.units();
            default: return trial.allOver() - now.allOver();
        }
    }

    public int worn(int c, int n) {
        if (!isCell(c) || !isWithin(n, 0, FAR)) {
            return BAD;
        }
        trial.copyFrom(now);
        trial.letPass(n, 0);
        return trial.heightAt(c);
    }

    public int over(int what) {
        if (!isWithin(what, 0, 1)) {
            return BAD;
        }
        trial.copyFrom(now);
        int minute = trial.passTillOver();
        return minute == NONE || what == 0 ? minute : trial.placeOver();
    }

    public int gone(int what) {
        if (!isWithin(what, 0, 1)) {
            return BAD;
        }
        trial.copyFrom(now);
        int minute = trial.passTillBreach();
        return minute == NONE || what == 0 ? minute : trial.breachedCell();
    }

    // ---- what should be

    public int best(int m, int stuff, int n, int c) {
        if (!isWithin(m, 1, 5) || !isStuff(stuff) || !isWithin(n, 1, HOUR)
                || !isWithin(c, -1, plan.cellCount() - 1)) {
            return BAD;
        }
        int water = findBestShares(m, stuff, n);
        return water == NONE || c == -1 ? water : bestShares.inchesAt(c);
    }

    /** Leaves in bestShares how the inches are laid for most water, and answers that water. */
    private int findBestShares(int m, int stuff, int n) {
        int most = NONE;
        boolean more = true;
        shares.start(m, plan.cellCount());
        for (int turn = 0; turn < MOST_WAYS && more; turn++) {
            int water = waterWithShares(stuff, n);
            if (water > most) {
                most = water;
                bestShares.copyFrom(shares);
            }
            more = shares.next();
        }
        return most;
    }

    private int waterWithShares(int stuff, int n) {
        trial.copyFrom(now);
        for (int c = 0; c < plan.cellCount(); c++) {
            int inches = shares.inchesAt(c);
            if (inches > 0) {
                if (!trial.canRaise(c, inches)) {
                    return NONE;
                }
                trial.layAt(c, stuff, inches);
            }
        }
        trial.letPass(n, 0);
        return trial.units();
    }

    public int gap(int n, int what) {
        if (!isWithin(n, 1, HOUR) || !isWithin(what, 0, 1)) {
            return BAD;
        }
        for (int h = HIGHEST_CELL; h >= 0; h--) {
            for (int c = 0; c < plan.cellCount(); c++) {
                if (isGap(c, h, n)) {
                    return what == 0 ? h : c;
                }
            }
        }
        return NONE;
    }

    private boolean isGap(int c, int h, int n) {
        trial.copyFrom(now);
        trial.remake(c, SLATE, h);
        for (int k = 0; k < n; k++) {
            trial.oneMinute(0);
            if (trial.overInMinute() > 0 && trial.placeOver() != c) {
                return false;
            }
        }
        return true;
    }

    public int together(int j) {
        if (!isWithin(j, -1, plan.crew().jobCount() - 1)) {
            return BAD;
        }
        int way = plan.crew().quickestWay();
        if (way == NONE) {
            return NONE;
        }
        return j == -1 ? plan.crew().minutesBy(way) : plan.crew().whoDoes(j, way);
    }

    public int slow(int c, int u, int what) {
        if (!isCell(c) || !isWithin(u, 0, 999) || !isWithin(what, 0, 1)) {
            return BAD;
        }
        for (int m = 1; m <= 9; m++) {
            int mostOver = letOut(c, m, false);
            if (mostOver <= u) {
                return what == 0 ? m : letOut(c, m, true);
            }
        }
        return NONE;
    }

    /** Digs an inch off a cell each m-th minute of an hour: when the lake is first empty, or the most that goes over. */
    private int letOut(int c, int m, boolean tillEmpty) {
        int most = 0;
        int sinceDug = 0;
        trial.copyFrom(now);
        for (int k = 1; k <= HOUR; k++) {
            sinceDug++;
            if (sinceDug == m) {
                sinceDug = 0;
                if (trial.canDig(c, 1)) {
                    trial.digAt(c, 1);
                }
            }
            trial.oneMinute(0);
            most = Math.max(most, trial.overInMinute());
            if (tillEmpty && trial.level() == 0) {
                return k;
            }
        }
        return tillEmpty ? NONE : most;
    }

    public int fill(int h) {
        if (!isWithin(h, 1, HIGHEST_CELL)) {
            return BAD;
        }
        trial.copyFrom(now);
        trial.empty();
        for (int k = 1; k <= FAR; k++) {
            trial.oneMinute(0);
            if (trial.level() >= h) {
                return k;
            }
        }
        return NONE;
    }

    public int trodden(int c, int n) {
        if (!isCell(c) || !isWithin(n, 1, 9)) {
            return BAD;
        }
        if (!now.canRaise(c, n)) {
            return NO;
        }
        trial.copyFrom(now);
        int lower = trial.passTillBreach();
        if (lower == NONE) {
            return NONE;
        }
        trial.copyFrom(now);
        trial.layAt(c, now.stuffAt(c), n);
        int higher = trial.passTillBreach();
        return (higher == NONE ? FAR : higher) - lower + FAR;
    }

    // ---- what was

    public int blame() {
        if (!now.wasBreached()) {
            return NONE;
        }
        for (int k = 0; k < acts.size(); k++) {
            acts.doAllBut(k, trial);
            if (!trial.wasBreached()) {
                return k;
            }
        }
        return NONE;
    }

    public int seen(int h, int n) {
        if (!isWithin(h, 0, HIGHEST_LEVEL) || !isWithin(n, 1, 99)) {
            return BAD;
        }
        return sightings.add(h, n) ? sightings.size() : FULL;
    }

    public int forget() {
        int were = sightings.size();
        sightings.clear();
        return were;
    }

    public int flows() {
        int bits = 0;
        for (int flow = 0; flow <= 30; flow++) {
            if (sightings.agreeWith(flow, plan)) {
                bits |= 1 << flow;
            }
        }
        return bits;
    }

    public int odds(int n, int a, int x, int part) {
        if (!isWithin(n, 0, 5) || !isWithin(a, 0, 30) || !isWithin(x, 0, 10) || !isWithin(part, 0, 1)) {
            return BAD;
        }
        int above = 0;
        int below = 1;
        for (int k = 0; k < n; k++) {
            below *= 10;
        }
        for (int rains = 0; rains < 1 << n; rains++) {
            if (holdsIn(rains, n, a)) {
                above += chanceOf(rains, n, x);
            }
        }
        int divisor = greatestDivisor(above, below);
        if (divisor < 1) {
            return BAD;
        }
        return part == 0 ? above / divisor : below / divisor;
    }

    /** Whether no cell is breached, where bit k of rains tells of the k-th ten minutes. */
    private boolean holdsIn(int rains, int n, int a) {
        trial.copyFrom(now);
        int before = trial.allBreaches();
        for (int k = 0; k < n; k++) {
            trial.letPass(10, (rains >> k & 1) == 1 ? a : 0);
        }
        return trial.allBreaches() == before;
    }

    /** In parts of ten to the n. */
    private static int chanceOf(int rains, int n, int x) {
        int chance = 1;
        for (int k = 0; k < n; k++) {
            chance *= (rains >> k & 1) == 1 ? x : 10 - x;
        }
        return chance;
    }

    private static int greatestDivisor(int a, int b) {
        int greater = a;
        int less = b;
        for (int turn = 0; turn < 100 && less != 0; turn++) {
            int rest = greater % less;
            greater = less;
            less = rest;
        }
        return greater;
    }

    public int night(int z, int what) {
        if (!isWithin(z, 0, 9999) || !isWithin(what, 0, 1)) {
            return BAD;
        }
        trial.copyFrom(now);
        for (int k = 1; k <= HOUR; k++) {
            trial.oneMinute(drawOf(z, k));
        }
        return what == 0 ? trial.units() : trial.allBreaches() - now.allBreaches();
    }

    private static int drawOf(int z, int k) {
        long x = 7919L * z + 6151L * k + 1;
        return (int) (x * x % 65521 % 16);
    }

    // ---- kept

    public int keep() {
        if (keptCount < 0 || keptCount >= MOST_KEPT) {
            return FULL;
        }
        kept[keptCount].copyFrom(acts);
        keptCount++;
        return keptCount;
    }

    public int back() {
        if (keptCount < 1 || keptCount > MOST_KEPT) {
            return NO;
        }
        keptCount--;
        acts.copyFrom(kept[keptCount]);
        acts.doAllBut(NONE, now);
        return keptCount;
    }

    public int count(int what) {
        switch (what) {
            case 0: return plan.cellCount();
            case 1: return plan.crew().childCount();
            case 2: return plan.crew().jobCount();
            case 3: return acts.size();
            case 4: return sightings.size();
            case 5: return keptCount;
            case 6: return text.size();
            default: return BAD;
        }
    }

    private boolean isCell(int c) {
        return isWithin(c, 0, plan.cellCount() - 1);
    }

    private static boolean isStuff(int stuff) {
        return isWithin(stuff, MUD, STONE);
    }

    private static boolean isWithin(int number, int least, int greatest) {
        return number >= least && number <= greatest;
    }

    /** The letters that were written, and the numbers of the item that was read last. */
    private static final class Text {
        private final int[] letters = new int[MOST_LETTERS];
        private int length;
        private final int[] numbers = new int[MOST_NUMBERS];
        private int howMany;

        int size() {
            return length;
        }

        void clear() {
            length = 0;
        }

        boolean add(int letter) {
            if (length < 0 || length >= MOST_LETTERS) {
                return false;
            }
            letters[length] = letter;
            length++;
            return true;
        }

        /** 0, which is no letter, where none stands. */
        int letterAt(int at) {
            return at >= 0 && at < length && at < MOST_LETTERS ? letters[at] : 0;
        }

        int numberCount() {
            return howMany;
        }

        int numberAt(int k) {
            return k >= 0 && k < howMany && k < MOST_NUMBERS ? numbers[k] : 0;
        }

        /** Reads the item that starts there: the place behind it, NONE if it has not the form of one. */
        int readItem(int start) {
            int at = start + 1;
            howMany = 0;
            for (int k = 0; k < MOST_NUMBERS; k++) {
                int figures = figuresAt(at);
                if (figures == 0) {
                    return NONE;
                }
                numbers[k] = figures == 1 ? figureAt(at) : 10 * figureAt(at) + figureAt(at + 1);
                howMany = k + 1;
                int mark = letterAt(at + figures);
                at += figures + 1;
                if (mark == ';') {
                    return at;
                }
                if (mark != ',') {
                    return NONE;
                }
            }
            return NONE;
        }

        /** How many figures stand there, of two at most. */
        private int figuresAt(int at) {
            if (figureAt(at) == NONE) {
                return 0;
            }
            return figureAt(at + 1) == NONE ? 1 : 2;
        }

        private int figureAt(int at) {
            int letter = letterAt(at);
            return letter >= '0' && letter <= '9' ? letter - '0' : NONE;
        }
    }

    /** What a text tells: the cells as they are at first, the banks, the lake, the brook and the crew. */
    private static final class Plan {
        private final int[] heights = new int[MOST_CELLS];
        private final int[] stuffs = new int[MOST_CELLS];
        private int cells;
        private int leftBank;
        private int rightBank;
        private int inch;
        private int inchMore;
        private final Brook brook = new Brook();
        private final Crew crew = new Crew();

        /** Answers the place of the first item that is not as it should be, NONE if all are. */
        int readFrom(Text text) {
            clear();
            int start = 0;
            for (int turn = 0; turn < MOST_LETTERS && start < text.size(); turn++) {
                int next = text.readItem(start);
                if (next == NONE || !takeItem(text.letterAt(start), text)) {
                    return start;
                }
                start = next;
            }
            brook.settle();
            return NONE;
        }

        private void clear() {
            cells = 0;
            leftBank = 20;
            rightBank = 20;
            inch = 6;
            inchMore = 1;
            brook.clear();
            crew.clear();
        }

        private boolean takeItem(int letter, Text item) {
            int count = item.numberCount();
            int first = item.numberAt(0);
            int second = item.numberAt(1);
            int third = item.numberAt(2);
            switch (letter) {
                case 'c': return count == 2 && addCell(first, second);
                case 'b': return count == 2 && setBanks(first, second);
                case 'a': return count == 2 && setLake(first, second);
                case 'f': return count == 2 && brook.addFlow(first, second);
                case 'r': return count == 3 && brook.addRain(first, second, third);
                case 'p': return count == 4 && crew.addChild(item);
                case 'j': return count == 3 && first < cells && crew.addJob(second, third);
                default: return false;
            }
        }

        private boolean addCell(int height, int stuff) {
            if (cells < 0 || cells >= MOST_CELLS || height > HIGHEST_CELL || !isStuff(stuff)) {
                return false;
            }
            heights[cells] = height;
            stuffs[cells] = stuff;
            cells++;
            return true;
        }

        private boolean setBanks(int left, int right) {
            leftBank = left;
            rightBank = right;
            return left <= HIGHEST_BANK && right <= HIGHEST_BANK;
        }

        private boolean setLake(int least, int more) {
            inch = least;
            inchMore = more;
            return isWithin(least, 1, 20) && more <= 5;
        }

        int cellCount() {
            return cells;
        }

        int firstHeight(int c) {
            return c >= 0 && c < cells && c < MOST_CELLS ? heights[c] : 0;
        }

        int firstStuff(int c) {
            return c >= 0 && c < cells && c < MOST_CELLS ? stuffs[c] : MUD;
        }

        int left() {
            return leftBank;
        }

        int right() {
            return rightBank;
        }

        Brook brook() {
            return brook;
        }

        Crew crew() {
            return crew;
        }

        /** How many units a level of h inches takes. */
        int takes(int h) {
            return inch * h + inchMore * (h * (h + 1) / 2);
        }

        int levelOf(int units) {
            int level = 0;
            for (int step = 32; step > 0; step /= 2) {
                int higher = level + step;
                if (higher <= HIGHEST_LEVEL && takes(higher) <= units) {
                    level = higher;
                }
            }
            return level;
        }
    }

    /** What comes down the brook, and the rain, by minutes. */
    private static final class Brook {
        private final int[] flowFrom = new int[MOST_FLOWS];
        private final int[] flowUnits = new int[MOST_FLOWS];
        private int flowCount;
        private final int[] rainFrom = new int[MOST_RAINS];
        private final int[] rainTo = new int[MOST_RAINS];
        private final int[] rainUnits = new int[MOST_RAINS];
        private int rainCount;
        private final int[] byMinute = new int[STEADY + 1];

        void clear() {
            flowCount = 0;
            rainCount = 0;
        }

        boolean addFlow(int from, int units) {
            if (flowCount < 0 || flowCount >= MOST_FLOWS || units > 60) {
                return false;
            }
            flowFrom[flowCount] = from;
            flowUnits[flowCount] = units;
            flowCount++;
            return true;
        }

        boolean addRain(int from, int to, int units) {
            if (rainCount < 0 || rainCount >= MOST_RAINS || from > to || units > 30) {
                return false;
            }
            rainFrom[rainCount] = from;
            rainTo[rainCount] = to;
            rainUnits[rainCount] = units;
            rainCount++;
            return true;
        }

        /** Works out each minute once, as it is asked for very often. */
        void settle() {
            for (int t = 0; t <= STEADY; t++) {
                byMinute[t] = flowIn(t) + rainIn(t);
            }
        }

        private int flowIn(int minute) {
            int latest = NONE;
            int units = 0;
            for (int k = 0; k < flowCount && k < MOST_FLOWS; k++) {
                if (flowFrom[k] <= minute && flowFrom[k] >= latest) {
                    latest = flowFrom[k];
                    units = flowUnits[k];
                }
            }
            return units;
        }

        private int rainIn(int minute) {
            int units = 0;
            for (int k = 0; k < rainCount && k < MOST_RAINS; k++) {
                if (rainFrom[k] <= minute && minute <= rainTo[k]) {
                    units += rainUnits[k];
                }
            }
            return units;
        }

        int comesIn(int minute) {
            return minute < 0 ? 0 : byMinute[Math.min(minute, STEADY)];
        }
    }

    /** The children, the jobs, and the ways to share the jobs out. */
    private static final class Crew {
        private final int[][] lays = new int[MOST_CHILDREN][STUFFS];
        private int children;
        private final int[] jobStuff = new int[MOST_JOBS];
        private final int[] jobInches = new int[MOST_JOBS];
        private int jobs;
        private final int[] busy = new int[MOST_CHILDREN];

        void clear() {
            children = 0;
            jobs = 0;
        }

        boolean addChild(Text item) {
            if (children < 0 || children >= MOST_CHILDREN) {
                return false;
            }
            for (int stuff = 0; stuff < STUFFS; stuff++) {
                if (item.numberAt(stuff) > 9) {
                    return false;
                }
                lays[children][stuff] = item.numberAt(stuff);
            }
            children++;
            return true;
        }

        boolean addJob(int stuff, int inches) {
            if (jobs < 0 || jobs >= MOST_JOBS || !isStuff(stuff) || !isWithin(inches, 1, 30)) {
                return false;
            }
            jobStuff[jobs] = stuff;
            jobInches[jobs] = inches;
            jobs++;
            return true;
        }

        int childCount() {
            return children;
        }

        int jobCount() {
            return jobs;
        }

        /** The number of the first way by which all is done soonest, NONE if there is none. */
        int quickestWay() {
            int quickest = NONE;
            int least = 0;
            int ways = wayCount();
            for (int way = 0; way < ways; way++) {
                int minutes = minutesBy(way);
                if (minutes != NONE && (quickest == NONE || minutes < least)) {
                    quickest = way;
                    least = minutes;
                }
            }
            return quickest;
        }

        private int wayCount() {
            int ways = 1;
            for (int j = 0; j < jobs; j++) {
                ways *= children;
            }
            return ways;
        }

        /** A way's number has who does a job as its figures, job 0 first, so that ways come in their order. */
        int whoDoes(int job, int way) {
            if (children < 1) {
                return NONE;
            }
            int rest = way;
            for (int j = jobs - 1; j > job; j--) {
                rest /= children;
            }
            return rest % children;
        }

        /** In how many minutes all is done by a way, NONE if somebody can't do his part. */
        int minutesBy(int way) {
            int longest = 0;
            for (int child = 0; child < MOST_CHILDREN; child++) {
                busy[child] = 0;
            }
            for (int j = 0; j < jobs; j++) {
                int child = whoDoes(j, way);
                int minutes = minutesFor(child, j);
                if (minutes == NONE || child < 0 || child >= MOST_CHILDREN) {
                    return NONE;
                }
                busy[child] += minutes;
                longest = Math.max(longest, busy[child]);
            }
            return longest;
        }

        private int minutesFor(int child, int job) {
            if (child < 0 || child >= children || job < 0 || job >= jobs) {
                return NONE;
            }
            int rate = lays[child][jobStuff[job]];
            return rate < 1 ? NONE : (jobInches[job] + rate - 1) / rate;
        }
    }

    /** The dam and the water as they stand at some minute. */
    private static final class Dam {
        private final Plan plan;
        private final int[] heights = new int[MOST_CELLS];
        private final int[] stuffs = new int[MOST_CELLS];
        private final int[] breaches = new int[MOST_CELLS];
        private int units;
        private int minutes;
        private int wentOver;
        private int seeped;
        private int edge;
        private int place;
        private int edgeTakes;
        private int turfs;
        private int stones;
        private int overNow;
        private int overAt;
        private int breachedNow;

        Dam(Plan plan) {
            this.plan = plan;
        }

        /** As the text tells it, ahead of all acts. */
        void startAnew() {
            for (int c = 0; c < MOST_CELLS; c++) {
                heights[c] = plan.firstHeight(c);
                stuffs[c] = plan.firstStuff(c);
                breaches[c] = 0;
            }
            units = 0;
            minutes = 0;
            wentOver = 0;
            seeped = 0;
            survey();
        }

        void copyFrom(Dam other) {
            for (int c = 0; c < MOST_CELLS; c++) {
                heights[c] = other.heights[c];
                stuffs[c] = other.stuffs[c];
                breaches[c] = other.breaches[c];
            }
            units = other.units;
            minutes = other.minutes;
            wentOver = other.wentOver;
            seeped = other.seeped;
            survey();
        }

        /** What a minute needs to know of the cells, kept till one of them changes. */
        private void survey() {
            edge = Math.min(plan.left(), plan.right());
            place = edge == plan.left() ? LEFT_BANK : RIGHT_BANK;
            turfs = 0;
            stones = 0;
            for (int c = Math.min(plan.cellCount(), MOST_CELLS) - 1; c >= 0; c--) {
                if (heights[c] <= edge) {
                    edge = heights[c];
                    place = c;
                }
                if (heights[c] > 0) {
                    turfs += stuffs[c] == TURF ? 1 : 0;
                    stones += stuffs[c] == STONE ? 1 : 0;
                }
            }
            edgeTakes = plan.takes(edge);
        }

        /** One minute goes by, in which some units come besides what the text tells. */
        void oneMinute(int more) {
            minutes++;
            units += plan.brook().comesIn(minutes) + more;
            if (turfs + stones > 0) {
                int level = plan.levelOf(units);
                int seep = Math.min(units, turfs * (level / 8) + stones * (level / 3));
                units -= seep;
                seeped += seep;
            }
            overNow = Math.max(0, units - edgeTakes);
            overAt = place;
            units -= overNow;
            wentOver += overNow;
            breachedNow = NONE;
            if (overNow > 0 && wears(overAt)) {
                survey();
            }
        }

        /** Wears the cell that water went over in this minute: whether it became lower. */
        private boolean wears(int c) {
            if (c < 0 || c >= MOST_CELLS || heights[c] == 0) {
                return false;
            }
            int inches = stuffs[c] == MUD ? 2 : stuffs[c] == TURF && minutes % 2 == 0 ? 1 : 0;
            heights[c] = Math.max(0, heights[c] - inches);
            if (heights[c] == 0) {
                breaches[c]++;
                breachedNow = c;
            }
            return inches > 0;
        }

        void letPass(int n, int more) {
            for (int k = 0; k < n; k++) {
                oneMinute(more);
            }
        }

        /** In how many minutes some water first goes over, NONE if it does not. */
        int passTillOver() {
            for (int k = 1; k <= FAR; k++) {
                oneMinute(0);
                if (overNow > 0) {
                    return k;
                }
            }
            return NONE;
        }

        /** In how many minutes a cell is first breached, NONE if none is. */
        int passTillBreach() {
            for (int k = 1; k <= FAR; k++) {
                oneMinute(0);
                if (breachedNow != NONE) {
                    return k;
                }
            }
            return NONE;
        }

        boolean canRaise(int c, int n) {
            return heightAt(c) + n <= HIGHEST_CELL;
        }

        boolean canDig(int c, int n) {
            return heightAt(c) >= n;
        }

        boolean canPass(int n) {
            return minutes + n <= LONGEST;
        }

        void layAt(int c, int stuff, int n) {
            remake(c, stuff, heightAt(c) + n);
        }

        void digAt(int c, int n) {
            remake(c, stuffAt(c), heightAt(c) - n);
        }

        void remake(int c, int stuff, int height) {
            if (c < 0 || c >= MOST_CELLS) {
                return;
            }
            heights[c] = height;
            stuffs[c] = stuff;
            survey();
        }

        void empty() {
            units = 0;
        }

        int heightAt(int c) {
            return c >= 0 && c < MOST_CELLS ? heights[c] : 0;
        }

        int stuffAt(int c) {
            return c >= 0 && c < MOST_CELLS ? stuffs[c] : MUD;
        }

        int breachesAt(int c) {
            return c >= 0 && c < MOST_CELLS ? breaches[c] : 0;
        }

        int allBreaches() {
            int all = 0;
            for (int c = 0; c < MOST_CELLS; c++) {
                all += breaches[c];
            }
            return all;
        }

        boolean wasBreached() {
            return allBreaches() > 0;
        }

        int level() {
            return plan.levelOf(units);
        }

        int units() {
            return units;
        }

        int minutesGone() {
            return minutes;
        }

        int allOver() {
            return wentOver;
        }

        int allSeeped() {
            return seeped;
        }

        int edgeHeight() {
            return edge;
        }

        int lowestPlace() {
            return place;
        }

        /** What went over in the latest minute, and where. */
        int overInMinute() {
            return overNow;
        }

        int placeOver() {
            return overAt;
        }

        int breachedCell() {
            return breachedNow;
        }
    }

    /** What was done, one act behind the other. */
    private static final class Acts {
        private final int[] kinds = new int[MOST_ACTS];
        private final int[] places = new int[MOST_ACTS];
        private final int[] stuffs = new int[MOST_ACTS];
        private final int[] amounts = new int[MOST_ACTS];
        private int length;

        int size() {
            return length;
        }

        void clear() {
            length = 0;
        }

        boolean add(int kind, int c, int stuff, int n) {
            if (length < 0 || length >= MOST_ACTS) {
                return false;
            }
            kinds[length] = kind;
            places[length] = c;
            stuffs[length] = stuff;
            amounts[length] = n;
            length++;
            return true;
        }

        void dropLast() {
            length = Math.max(0, length - 1);
        }

        void copyFrom(Acts other) {
            for (int k = 0; k < MOST_ACTS; k++) {
                kinds[k] = other.kinds[k];
                places[k] = other.places[k];
                stuffs[k] = other.stuffs[k];
                amounts[k] = other.amounts[k];
            }
            length = other.length;
        }

        /** Starts a dam anew and does all acts on it but one (NONE: all); those that can't be done are left out. */
        void doAllBut(int without, Dam dam) {
            dam.startAnew();
            for (int k = 0; k < length && k < MOST_ACTS; k++) {
                if (k != without) {
                    doOne(kinds[k], places[k], stuffs[k], amounts[k], dam);
                }
            }
        }

        private static void doOne(int kind, int c, int stuff, int n, Dam dam) {
            if (kind == LAY && dam.canRaise(c, n)) {
                dam.layAt(c, stuff, n);
            } else if (kind == DIG && dam.canDig(c, n)) {
                dam.digAt(c, n);
            } else if (kind == MINUTES && dam.canPass(n)) {
                dam.letPass(n, 0);
            }
        }
    }

    /** How high the lake was seen to be by a constant flow. */
    private static final class Sightings {
        private final int[] levels = new int[MOST_SEEN];
        private final int[] times = new int[MOST_SEEN];
        private int length;

        int size() {
            return length;
        }

        void clear() {
            length = 0;
        }

        boolean add(int level, int minutes) {
            if (length < 0 || length >= MOST_SEEN) {
                return false;
            }
            levels[length] = level;
            times[length] = minutes;
            length++;
            return true;
        }

        boolean agreeWith(int flow, Plan plan) {
            for (int k = 0; k < length && k < MOST_SEEN; k++) {
                if (plan.levelOf(flow * times[k]) != levels[k]) {
                    return false;
                }
            }
            return true;
        }
    }

    /** A way to share some inches out among the cells. */
    private static final class Shares {
        private final int[] inches = new int[MOST_CELLS];
        private int cells;

        /** The first way: all at cell 0. */
        void start(int all, int cellCount) {
            for (int c = 0; c < MOST_CELLS; c++) {
                inches[c] = 0;
            }
            inches[0] = all;
            cells = Math.min(cellCount, MOST_CELLS);
        }

        /** Goes on to the way that lays the next less at cell 0, then at 1, ..; false behind the last one. */
        boolean next() {
            int last = cells - 1;
            for (int c = last - 1; c >= 0; c--) {
                if (inches[c] > 0) {
                    int rest = inches[last] + 1;
                    inches[last] = 0;
                    inches[c]--;
                    inches[c + 1] = rest;
                    return true;
                }
            }
            return false;
        }

        int inchesAt(int c) {
            return c >= 0 && c < MOST_CELLS ? inches[c] : 0;
        }

        void copyFrom(Shares other) {
            for (int c = 0; c < MOST_CELLS; c++) {
                inches[c] = other.inches[c];
            }
            cells = other.cells;
        }
    }
}
