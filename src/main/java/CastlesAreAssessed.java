/** Castles on a beach, assessed: what ../shared/DOC.md promises, in the Java that ../shared/LANGUAGE.md leaves. */
public final class CastlesAreAssessed {
    private static final int NOBODY = -1;
    private static final int OTHER = -2;
    private static final int STATE = -3;
    private static final int BELOW = -4;
    private static final int ROOM = -6;
    private static final int NONE = -9;
    private static final int REFUSED_MENDED = 1000000000;
    private static final long REFUSED_LONG = 4000000000000000000L;
    private static final int LACKS = -1000;
    private static final int NOT_SO = -2000;

    private static final int CELLS = 25;
    private static final int WIDTH = 5;
    private static final int WORKS = 8;
    private static final int KINDS = 6;
    private static final int FIGURES = 10;
    private static final int MOST_HOUR = 999;
    private static final int MOST_AHEAD = 60;
    private static final int MOST_KEPT = 24;
    private static final int MOST_SWELLS = 7;
    private static final int TIDE = 12;
    private static final int TAKES = 8;
    private static final int LETTERS = 96;
    private static final int ROW_ROOM = 12;
    private static final int ROUTES = 2048;
    private static final int NO_SIGN = 2147483647;

    private final Beach now = new Beach();
    private final Beach mind = new Beach();
    private final Beach picture = new Beach();
    private final Beach[] earlier = new Beach[TAKES];
    private final Letters letters = new Letters();
    private final int[] told = new int[ROW_ROOM];
    private final int[] refusals = new int[7];
    private final int[] fewest = new int[ROUTES];
    private int toldSize;
    private int takes;
    private int nextTake;
    private boolean pictured;

    public CastlesAreAssessed() {
        for (int i = 0; i < TAKES; i++) {
            earlier[i] = new Beach();
        }
    }

    // ---- I: the beach ----

    public int feed(int letter) {
        if (letter < 0) {
            return refused(BELOW);
        }
        if (letter > 255 || letters.isFull()) {
            return refused(ROOM);
        }
        letters.add(letter);
        return letters.size();
    }

    public int beach() {
        int lack = letters.lackPlace();
        if (lack >= 0) {
            letters.forget();
            return LACKS - lack;
        }
        mind.becomes(now);
        int place = 0;
        int statements = 0;
        for (; statements < LETTERS && place < letters.size(); statements++) {
            if (!letters.comes(place, mind)) {
                letters.forget();
                return NOT_SO - place;
            }
            place += letters.lengthAt(place);
        }
        now.becomes(mind);
        takes = 0;
        letters.forget();
        return statements;
    }

    public int workOf(int work, int what) {
        if (!now.knows(work)) {
            return refused(NOBODY);
        }
        switch (what) {
            case 0: return now.kindOf(work);
            case 1: return now.figureOf(work);
            case 2: return now.cellOf(work);
            case 3: return now.wornOf(work);
            case 4: return now.stands(work) ? 1 : 0;
            case 5: return now.holdsOf(work);
            case 6: return now.rateOf(work);
            case 7: return Kinds.letsFor(now.kindOf(work), now.figureOf(work));
            case 8: return Kinds.stopsSea(now.kindOf(work)) ? 1 : 0;
            default: return refused(OTHER);
        }
    }

    public int at(int cell) {
        if (!isCell(cell)) {
            return refused(NOBODY);
        }
        return now.workIn(cell);
    }

    public int work(int kind, int figure, int cell) {
        if (!isKind(kind)) {
            return refused(OTHER);
        }
        if (figure < 0) {
            return refused(BELOW);
        }
        if (figure >= FIGURES || now.works >= WORKS) {
            return refused(ROOM);
        }
        if (!isCell(cell)) {
            return refused(NOBODY);
        }
        if (now.workIn(cell) >= 0) {
            return refused(STATE);
        }
        now.builds(kind, figure, cell);
        takes = 0;
        return now.works - 1;
    }

    public int razes(int work) {
        int refusal = notStanding(work);
        if (refusal != 0) {
            return refused(refusal);
        }
        remembers();
        now.loses(work);
        return now.standingWorks();
    }

    public int fixes(int work) {
        int refusal = notStanding(work);
        if (refusal != 0) {
            return refused(refusal);
        }
        remembers();
        int was = now.wornOf(work);
        now.wears(work, 0);
        return was;
    }

    public int pays() {
        remembers();
        int was = now.owed;
        now.settles();
        return was;
    }

    public int hours(int n) {
        if (n < 1) {
            return refused(BELOW);
        }
        if (n > MOST_AHEAD || now.hour + n > MOST_HOUR) {
            return refused(ROOM);
        }
        remembers();
        now.goesOn(n);
        return now.purse;
    }

    public int back() {
        if (takes <= 0) {
            return refused(STATE);
        }
        nextTake = (nextTake + TAKES - 1) % TAKES;
        now.becomes(earlierAt(nextTake));
        takes--;
        return takes;
    }

    // ---- II: the sea ----

    public int level(int n) {
        int refusal = outside(n, 0, MOST_AHEAD);
        if (refusal != 0) {
            return refused(refusal);
        }
        return Sea.height(now.hour + n);
    }

    public int wet(int n) {
        int refusal = outside(n, 0, MOST_AHEAD);
        if (refusal != 0) {
            return refused(refusal);
        }
        inMind(n);
        return mind.wetNow();
    }

    public int then(int n, int what) {
        int refusal = outside(n, 0, MOST_AHEAD);
        if (refusal != 0) {
            return refused(refusal);
        }
        if (what < 0 || what > 2) {
            return refused(OTHER);
        }
        inMind(n);
        if (what == 0) {
            return mind.standing;
        }
        return what == 1 ? mind.purse : mind.owed;
    }

    public int floods(int cell) {
        if (!isCell(cell)) {
            return refused(NOBODY);
        }
        mind.becomes(now);
        for (int behind = 0; behind <= MOST_AHEAD; behind++) {
            if (Sea.has(mind.wetNow(), cell)) {
                return behind;
            }
            mind.goesOn(1);
        }
        return NONE;
    }

    public int dry(int cell) {
        if (!isCell(cell)) {
            return refused(NOBODY);
        }
        return dryHours(cell);
    }

    public int driest(int what) {
        if (what < 0 || what > 1) {
            return refused(OTHER);
        }
        int best = 0;
        int most = NONE;
        for (int cell = 0; cell < CELLS; cell++) {
            int often = dryHours(cell);
            if (often > most) {
                best = cell;
                most = often;
            }
        }
        return what == 0 ? best : most;
    }

    public int falls(int work) {
        if (work != -1 && !now.knows(work)) {
            return refused(NOBODY);
        }
        mind.becomes(now);
        for (int behind = 0; behind <= MOST_AHEAD; behind++) {
            int fallen = now.standing & ~mind.standing;
            if (work == -1 && fallen != 0) {
                return lowestBit(fallen);
            }
            if (work != -1 && !mind.stands(work)) {
                return behind;
            }
            mind.goesOn(1);
        }
        return NONE;
    }

    public int keep(int cell, int n, int what) {
        if (!isCell(cell)) {
            return refused(NOBODY);
        }
        int refusal = outside(n, 1, MOST_KEPT);
        if (refusal != 0) {
            return refused(refusal);
        }
        if (what < 0 || what > 1) {
            return refused(OTHER);
        }
        if (staysDry(cell, n, NONE, NONE)) {
            return what == 0 ? 0 : NONE;
        }
        int one = oneKeeper(cell, n);
        if (one >= 0) {
            return what == 0 ? 1 : one;
        }
        int two = firstOfTwoKeepers(cell, n);
        if (two >= 0) {
            return what == 0 ? 2 : two;
        }
        return NONE;
    }

    public int best(int kind, int figure, int n, int what) {
        if (!isKind(kind) || what < 0 || what > 1) {
            return refused(OTHER);
        }
        if (figure < 0 || n < 0) {
            return refused(BELOW);
        }
        if (figure >= FIGURES || n > MOST_AHEAD || now.works >= WORKS) {
            return refused(ROOM);
        }
        int best = NONE;
        int most = NONE;
        for (int cell = 0; cell < CELLS; cell++) {
            if (now.workIn(cell) < 0) {
                mind.becomes(now);
                mind.builds(kind, figure, cell);
                mind.goesOn(n);
                if (mind.purse > most) {
                    best = cell;
                    most = mind.purse;
                }
            }
        }
        return what == 0 ? best : most;
    }

    public int dredge(int n) {
        int refusal = outside(n, 0, MOST_AHEAD);
        if (refusal != 0) {
            return refused(refusal);
        }
        inMind(n);
        int most = mind.purse - mind.owed;
        int best = NONE;
        for (int work = 0; work < WORKS; work++) {
            if (now.stands(work)) {
                mind.becomes(now);
                mind.loses(work);
                mind.goesOn(n);
                if (mind.purse - mind.owed > most) {
                    best = work;
                    most = mind.purse - mind.owed;
                }
            }
        }
        return best;
    }

    public int round(int i) {
        if (i < -1) {
            return refused(BELOW);
        }
        planRoutes();
        if (i == -1) {
            return stepsOver(0, now.standing);
        }
        if (i >= now.standingWorks()) {
            return NONE;
        }
        int left = now.standing;
        int cell = 0;
        for (int stop = 0; stop <= i && stop < WORKS; stop++) {
            int next = nextStop(cell, left);
            cell = now.cellOf(next);
            left &= ~(1 << next);
        }
        return cell;
    }

    public int assessed(int what) {
        switch (what) {
            case 0: return now.rates();
            case 1: return now.dearest();
            case 2: return Math.max(0, now.owed - now.purse);
            case 3: return now.dryWorks(now.wetAt(Sea.HIGHEST));
            default: return refused(OTHER);
        }
    }

    public int whatWas(int work, int what) {
        if (!now.knows(work)) {
            return refused(NOBODY);
        }
        if (what < 0 || what > 1) {
            return refused(OTHER);
        }
        int bits = 0;
        int choices = what == 0 ? KINDS : FIGURES;
        for (int choice = 0; choice < choices; choice++) {
            mind.becomes(now);
            int kind = what == 0 ? choice : now.kindOf(work);
            int figure = what == 0 ? now.figureOf(work) : choice;
            mind.takesFor(work, kind, figure);
            bits |= wearsAsTold(work) ? 1 << choice : 0;
        }
        return bits;
    }

    public int howHigh() {
        int bits = 0;
        for (int hour = 0; hour < TIDE; hour++) {
            mind.becomes(now);
            mind.hour = hour;
            bits |= floodsAsTold() ? 1 << hour : 0;
        }
        return bits;
    }

    public int two(int one, int other) {
        if (!now.knows(one) || !now.knows(other) || one == other) {
            return refused(NOBODY);
        }
        if (!now.stands(one) || !now.stands(other)) {
            return refused(STATE);
        }
        for (int pair = 0; pair < 4; pair++) {
            int first = pair / 2;
            int second = pair % 2;
            int paying = first << one | second << other;
            int purse = purseOf(paying);
            int owed = owedOf(paying);
            if (purseOf(paying ^ 1 << one) <= purse && owedOf(paying ^ 1 << other) >= owed) {
                return 10 * first + second;
            }
        }
        return NONE;
    }

    public long swells(int work, int n, int t, int part) {
        if (!now.knows(work)) {
            return refusedLong(NOBODY);
        }
        if (n < 0 || t < 2) {
            return refusedLong(BELOW);
        }
        if (n > MOST_SWELLS || t > 20) {
            return refusedLong(ROOM);
        }
        if (part < 0 || part > 1) {
            return refusedLong(OTHER);
        }
        long above = 0;
        for (int swollen = 0; swollen < 1 << n; swollen++) {
            mind.becomes(now);
            for (int i = 0; i < n; i++) {
                mind.anHour(swollen >> i & 1, 0);
            }
            if (mind.stands(work)) {
                above += power(t - 1, n - Integer.bitCount(swollen));
            }
        }
        return fraction(above, power(t, n), part);
    }

    public int shares(int n, int what) {
        if (n < 1) {
            return refused(BELOW);
        }
        if (n > 9) {
            return refused(ROOM);
        }
        if (what < 0 || what > 1) {
            return refused(OTHER);
        }
        return what == 0 ? now.purse / n : now.purse % n;
    }

    public int weakest(int what) {
        switch (what) {
            case 0: return now.leastBeyond();
            case 1: return now.aloneWorks();
            case 2: return now.highestWork();
            case 3: return now.works - now.standingWorks();
            default: return refused(OTHER);
        }
    }

    public long mean(int part) {
        if (part < 0 || part > 1) {
            return refusedLong(OTHER);
        }
        return fraction(now.rates(), now.standingWorks(), part);
    }

    public int low() {
        for (int ahead = 0; ahead < TIDE; ahead++) {
            if (Sea.height(now.hour + ahead) == 0) {
                return ahead;
            }
        }
        return NONE;
    }

    public int sand() {
        mind.becomes(now);
        for (int behind = 0; behind <= MOST_AHEAD; behind++) {
            if (mind.standing == 0) {
                return behind;
            }
            mind.goesOn(1);
        }
        return NONE;
    }

    public int mended(int work, int n) {
        if (!now.knows(work)) {
            return REFUSED_MENDED - refused(NOBODY);
        }
        int refusal = outside(n, 0, MOST_AHEAD);
        if (refusal != 0) {
            return REFUSED_MENDED - refused(refusal);
        }
        inMind(n);
        int without = mind.purse;
        mind.becomes(now);
        mind.wears(work, 0);
        mind.goesOn(n);
        return mind.purse - without;
    }

    public int pairs(int what) {
        switch (what) {
            case 0: return now.pairsBeside();
            case 1: return now.spread();
            case 2: return Sea.ALL & ~now.standingCells();
            default: return refused(OTHER);
        }
    }

    public int turrets(int kind) {
        if (!isKind(kind)) {
            return refused(OTHER);
        }
        return now.standingOf(kind);
    }

    // ---- the ROW ----

    public int row(int v) {
        if (v < 0) {
            return refused(BELOW);
        }
        if (v > 99 || toldSize < 0 || toldSize >= ROW_ROOM) {
            return refused(ROOM);
        }
        told[toldSize] = v;
        toldSize++;
        return toldSize;
    }

    public int judge() {
        int answer = NONE;
        for (int i = 0; i < toldSize && i < ROW_ROOM && answer == NONE; i++) {
            if (!now.knows(i) || now.rateOf(i) != told[i]) {
                answer = i;
            }
        }
        toldSize = 0;
        return answer;
    }

    public int clear() {
        int had = toldSize;
        toldSize = 0;
        return had;
    }

    public int lots(int n, int z, int what) {
        int refusal = outside(n, 1, 20);
        if (refusal != 0) {
            return refused(refusal);
        }
        if (what < 0 || what > 1) {
            return refused(OTHER);
        }
        int seed = z;
        int sum = 0;
        for (int lot = 0; lot < n; lot++) {
            mind.becomes(now);
            for (int work = 0; work < WORKS; work++) {
                if (mind.stands(work)) {
                    seed = seed * 1103515245 + 12345;
                    mind.wears(work, (seed & NO_SIGN) / 65536 % 6);
                }
            }
            mind.goesOn(TIDE);
            sum += what == 0 ? mind.standingWorks() : mind.purse;
        }
        return sum;
    }

    public int image() {
        picture.becomes(now);
        pictured = true;
        return now.hour;
    }

    public int restore() {
        if (!pictured) {
            return refused(STATE);
        }
        now.becomes(picture);
        takes = 0;
        return now.hour;
    }

    public int count(int what) {
        switch (what) {
            case 0: return now.works;
            case 1: return now.hour;
            case 2: return now.purse;
            case 3: return now.owed;
            case 4: return now.standing;
            case 5: return now.wetNow();
            case 6: return letters.size();
            case 7: return toldSize;
            case 8: return takes;
            default: return what >= 11 && what <= 16 ? refusals[what - 10] : NONE;
        }
    }

    // ---- refusals ----

    private int refused(int refusal) {
        int place = -refusal;
        if (place >= 0 && place < refusals.length) {
            refusals[place]++;
        }
        return refusal;
    }

    private long refusedLong(int refusal) {
        return REFUSED_LONG - refused(refusal);
    }

    private static int outside(int n, int least, int most) {
        if (n < least) {
            return BELOW;
        }
        return n > most ? ROOM : 0;
    }

    private int notStanding(int work) {
        if (!now.knows(work)) {
            return NOBODY;
        }
        return now.stands(work) ? 0 : STATE;
    }

    private static boolean isCell(int cell) {
        return cell >= 0 && cell < CELLS;
    }

    private static boolean isKind(int kind) {
        return kind >= 0 && kind < KINDS;
    }

    // ---- helpers of the calls ----

    private void remembers() {
        Beach slot = earlierAt(nextTake);
        slot.becomes(now);
        nextTake = (nextTake + 1) % TAKES;
        takes = Math.min(TAKES, takes + 1);
    }

    private Beach earlierAt(int place) {
        Beach slot = place >= 0 && place < TAKES ? earlier[place] : now;
        return slot != null ? slot : now;
    }

    private void inMind(int n) {
        mind.becomes(now);
        mind.goesOn(n);
    }

    private int dryHours(int cell) {
        mind.becomes(now);
        int often = 0;
        for (int behind = 1; behind <= MOST_AHEAD; behind++) {
            mind.goesOn(1);
            often += Sea.has(mind.wetNow(), cell) ? 0 : 1;
        }
        return often;
    }

    /** Whether the cell is dry behind 0 to n hours with walls in one and other; NONE is no wall. */
    private boolean staysDry(int cell, int n, int one, int other) {
        mind.becomes(now);
        if (one >= 0) {
            mind.builds(Kinds.WALL, FIGURES - 1, one);
        }
        if (other >= 0) {
            mind.builds(Kinds.WALL, FIGURES - 1, other);
        }
        for (int behind = 0; behind < n; behind++) {
            if (Sea.has(mind.wetNow(), cell)) {
                return false;
            }
            mind.goesOn(1);
        }
        return !Sea.has(mind.wetNow(), cell);
    }

    private int oneKeeper(int cell, int n) {
        for (int one = 0; one < CELLS; one++) {
            if (now.workIn(one) < 0 && staysDry(cell, n, one, NONE)) {
                return one;
            }
        }
        return NONE;
    }

    private int firstOfTwoKeepers(int cell, int n) {
        for (int one = 0; one < CELLS; one++) {
            for (int other = one + 1; other < CELLS; other++) {
                boolean free = now.workIn(one) < 0 && now.workIn(other) < 0;
                if (free && staysDry(cell, n, one, other)) {
                    return one;
                }
            }
        }
        return NONE;
    }

    /** Fills fewest: at 8 times a set of works, plus a work, the fewest steps from that work over the set. */
    private void planRoutes() {
        for (int place = 0; place < ROUTES; place++) {
            int left = place / WORKS;
            // a set that holds a work that is gone is on no route
            fewest[place] = (left & ~now.standing) == 0 ? stepsOver(now.cellOf(place % WORKS), left) : 0;
        }
    }

    /** The sets that are smaller by one work must stand in fewest. */
    private int stepsOver(int from, int left) {
        int next = nextStop(from, left);
        return next < 0 ? 0 : stepsBy(from, left, next);
    }

    private int nextStop(int from, int left) {
        int next = NONE;
        int least = NO_SIGN;
        for (int work = 0; work < WORKS; work++) {
            if ((left >> work & 1) != 0) {
                int steps = stepsBy(from, left, work);
                if (steps < least) {
                    next = work;
                    least = steps;
                }
            }
        }
        return next;
    }

    private int stepsBy(int from, int left, int work) {
        int place = (left & ~(1 << work)) * WORKS + work;
        int rest = place >= 0 && place < ROUTES ? fewest[place] : 0;
        return Sea.steps(from, now.cellOf(work)) + rest;
    }

    private boolean wearsAsTold(int work) {
        for (int behind = 0; behind < toldSize && behind < ROW_ROOM; behind++) {
            if (mind.wornOf(work) != told[behind]) {
                return false;
            }
            mind.goesOn(1);
        }
        return true;
    }

    private boolean floodsAsTold() {
        for (int behind = 0; behind < toldSize && behind < ROW_ROOM; behind++) {
            if (Integer.bitCount(mind.wetNow()) != told[behind]) {
                return false;
            }
            mind.goesOn(1);
        }
        return true;
    }

    private int purseOf(int paying) {
        payingFor(paying);
        return mind.purse;
    }

    private int owedOf(int paying) {
        payingFor(paying);
        return mind.owed;
    }

    private void payingFor(int paying) {
        mind.becomes(now);
        for (int i = 0; i < 6; i++) {
            mind.anHour(0, paying);
        }
    }

    private static int lowestBit(int bits) {
        return Integer.bitCount((bits & -bits) - 1);
    }

    private static long power(int base, int exponent) {
        long product = 1;
        for (int i = 0; i < exponent && i <= MOST_SWELLS; i++) {
            product *= base;
        }
        return product;
    }

    /** Nothing is told as 0 over 1, also over 0. */
    private static long fraction(long above, long below, int part) {
        if (above == 0) {
            return part;
        }
        long divisor = above;
        long rest = below;
        for (int i = 0; i < 200 && rest != 0; i++) {
            long next = divisor % rest;
            divisor = rest;
            rest = next;
        }
        if (divisor == 0) {
            return part;
        }
        return part == 0 ? above / divisor : below / divisor;
    }

    /** What the kinds do, by their figure. */
    private static final class Kinds {
        static final int WALL = 0;
        static final int TURRET = 1;
        static final int MOAT = 2;
        static final int CASTLE = 3;
        static final int MINT = 4;

        private Kinds() {
        }

        static boolean stopsSea(int kind) {
            return kind != MOAT;
        }

        static int holdsFor(int kind, int figure) {
            int wall = figure / 3 + 1;
            int turret = wall + 1;
            int castle = 2 * turret;
            switch (kind) {
                case WALL: return wall;
                case TURRET: return turret;
                case MOAT: return figure + 2;
                case CASTLE: return castle;
                case MINT: return turret;
                default: return castle - 1;
            }
        }

        static int rateFor(int kind, int figure) {
            int turret = figure + 10;
            int castle = 3 * turret - 10;
            switch (kind) {
                case WALL: return figure;
                case TURRET: return turret;
                case MOAT: return 5;
                case CASTLE: return castle;
                case MINT: return 20;
                default: return 2 * castle;
            }
        }

        static int letsFor(int kind, int figure) {
            int castle = figure + 5;
            switch (kind) {
                case WALL: return 0;
                case TURRET: return figure;
                case MOAT: return 0;
                case CASTLE: return castle;
                case MINT: return 7;
                default: return castle + figure;
            }
        }
    }

    /** Cells as bits, and how high the sea is. */
    private static final class Sea {
        static final int ALL = 33554431;
        static final int HIGHEST = 5;
        static final int LOWEST_ROW = 32505856;
        private static final int NOT_LEFTMOST = 32472030;
        private static final int NOT_RIGHTMOST = 16236015;

        private Sea() {
        }

        static int height(int hour) {
            return Math.max(0, HIGHEST - Math.abs(Math.floorMod(hour, TIDE) - TIDE / 2));
        }

        static boolean has(int cells, int cell) {
            return (cells >> cell & 1) != 0;
        }

        static int beside(int cells) {
            int sideways = (cells & NOT_RIGHTMOST) << 1 | (cells & NOT_LEFTMOST) >> 1;
            return (sideways | cells << WIDTH | cells >> WIDTH) & ALL;
        }

        static int lowestRows(int height) {
            return ALL & ALL << WIDTH * (WIDTH - height);
        }

        static int steps(int from, int to) {
            return Math.abs(from / WIDTH - to / WIDTH) + Math.abs(from % WIDTH - to % WIDTH);
        }
    }

    /** All that there is of part I but the letters: the works, the hour, the purse and what is owed. */
    private static final class Beach {
        /** Two more than WORKS: the walls of keep come behind them. */
        private static final int PLACES = 10;
        private static final int MOST_WORN = 99;
        private static final int MOST_MONEY = 9999;

        private final int[] kinds = new int[PLACES];
        private final int[] figures = new int[PLACES];
        private final int[] cells = new int[PLACES];
        private final int[] worn = new int[PLACES];
        private int works;
        private int standing;
        private int hour;
        private int purse;
        private int owed;

        private Beach() {
        }

        void becomes(Beach other) {
            if (other == null) {
                return;
            }
            for (int work = 0; work < PLACES; work++) {
                kinds[work] = other.kinds[work];
                figures[work] = other.figures[work];
                cells[work] = other.cells[work];
                worn[work] = other.worn[work];
            }
            works = other.works;
            standing = other.standing;
            hour = other.hour;
            purse = other.purse;
            owed = other.owed;
        }

        // -- one work --

        boolean knows(int work) {
            return work >= 0 && work < works && work < PLACES;
        }

        boolean stands(int work) {
            return work >= 0 && work < PLACES && (standing >> work & 1) != 0;
        }

        int kindOf(int work) {
            return knows(work) ? kinds[work] : 0;
        }

        int figureOf(int work) {
            return knows(work) ? figures[work] : 0;
        }

        int cellOf(int work) {
            return knows(work) ? cells[work] : 0;
        }

        int wornOf(int work) {
            return knows(work) ? worn[work] : 0;
        }

        int holdsOf(int work) {
            return Kinds.holdsFor(kindOf(work), figureOf(work));
        }

        int rateOf(int work) {
            return Kinds.rateFor(kindOf(work), figureOf(work));
        }

        int workIn(int cell) {
            for (int work = 0; work < PLACES; work++) {
                if (stands(work) && cells[work] == cell) {
                    return work;
                }
            }
            return NONE;
        }

        // -- changes --

        void builds(int kind, int figure, int cell) {
            int work = works;
            if (work < 0 || work >= PLACES) {
                return;
            }
            kinds[work] = kind;
            figures[work] = figure;
            cells[work] = cell;
            worn[work] = 0;
            standing |= 1 << work;
            works++;
        }

        void loses(int work) {
            if (knows(work)) {
                standing &= ~(1 << work);
            }
        }

        void wears(int work, int by) {
            if (knows(work)) {
                worn[work] = by;
            }
        }

        void takesFor(int work, int kind, int figure) {
            if (knows(work)) {
                kinds[work] = kind;
                figures[work] = figure;
            }
        }

        void settles() {
            purse = Math.max(0, purse - owed);
            owed = 0;
        }

        void goesOn(int n) {
            for (int i = 0; i < n; i++) {
                anHour(0, 0);
            }
        }

        /** An hour with LEVEL by so much more; works among the paying (bits) are in no sum. */
        void anHour(int swell, int paying) {
            hour++;
            int wet = wetAt(Math.min(Sea.HIGHEST, Sea.height(hour) + swell));
            int touched = wet | Sea.beside(wet);
            int spared = standing;
            for (int work = 0; work < PLACES; work++) {
                if (stands(work)) {
                    if (Sea.has(touched, cells[work])) {
                        worn[work] = Math.min(MOST_WORN, worn[work] + 1);
                    }
                    if (!Sea.has(wet, cells[work]) && (paying >> work & 1) == 0) {
                        purse = Math.min(MOST_MONEY, purse + Kinds.letsFor(kinds[work], figures[work]));
                        owed = Math.min(MOST_MONEY, owed + Kinds.rateFor(kinds[work], figures[work]));
                    }
                    if (worn[work] > Kinds.holdsFor(kinds[work], figures[work])) {
                        spared &= ~(1 << work);
                    }
                }
            }
            standing = spared;
        }

        // -- the sea on it --

        int wetAt(int height) {
            int open = Sea.lowestRows(height);
            for (int work = 0; work < PLACES; work++) {
                if (stands(work) && Kinds.stopsSea(kinds[work])) {
                    open &= ~(1 << cells[work]);
                }
            }
            int wet = 0;
            int more = open & Sea.LOWEST_ROW;
            for (int i = 0; i < CELLS && more != wet; i++) {
                wet = more;
                more = wet | Sea.beside(wet) & open;
            }
            return wet;
        }

        int wetNow() {
            return wetAt(Sea.height(hour));
        }

        int dryWorks(int wet) {
            int bits = 0;
            for (int work = 0; work < PLACES; work++) {
                if (stands(work) && !Sea.has(wet, cells[work])) {
                    bits |= 1 << work;
                }
            }
            return bits;
        }

        // -- all that stands --

        int standingWorks() {
            return Integer.bitCount(standing);
        }

        int standingCells() {
            int bits = 0;
            for (int work = 0; work < PLACES; work++) {
                if (stands(work)) {
                    bits |= 1 << cells[work];
                }
            }
            return bits;
        }

        int standingOf(int kind) {
            int number = 0;
            for (int work = 0; work < PLACES; work++) {
                if (stands(work) && kinds[work] == kind) {
                    number++;
                }
            }
            return number;
        }

        int rates() {
            int sum = 0;
            for (int work = 0; work < PLACES; work++) {
                if (stands(work)) {
                    sum += rateOf(work);
                }
            }
            return sum;
        }

        int dearest() {
            int best = NONE;
            for (int work = 0; work < PLACES; work++) {
                if (stands(work) && (best < 0 || rateOf(work) > rateOf(best))) {
                    best = work;
                }
            }
            return best;
        }

        int leastBeyond() {
            int best = NONE;
            for (int work = 0; work < PLACES; work++) {
                if (stands(work) && (best < 0 || beyond(work) < beyond(best))) {
                    best = work;
                }
            }
            return best;
        }

        private int beyond(int work) {
            return holdsOf(work) - wornOf(work);
        }

        int highestWork() {
            int best = NONE;
            for (int work = 0; work < PLACES; work++) {
                if (stands(work) && (best < 0 || cellOf(work) / WIDTH < cellOf(best) / WIDTH)) {
                    best = work;
                }
            }
            return best;
        }

        int aloneWorks() {
            int bits = 0;
            int near = Sea.beside(standingCells());
            for (int work = 0; work < PLACES; work++) {
                if (stands(work) && !Sea.has(near, cells[work])) {
                    bits |= 1 << work;
                }
            }
            return bits;
        }

        int pairsBeside() {
            int number = 0;
            for (int work = 0; work < PLACES; work++) {
                for (int other = work + 1; other < PLACES; other++) {
                    if (stands(work) && stands(other) && Sea.steps(cells[work], cells[other]) == 1) {
                        number++;
                    }
                }
            }
            return number;
        }

        int spread() {
            int most = 0;
            for (int work = 0; work < PLACES; work++) {
                for (int other = work + 1; other < PLACES; other++) {
                    if (stands(work) && stands(other)) {
                        most = Math.max(most, Sea.steps(cells[work], cells[other]));
                    }
                }
            }
            return most;
        }
    }

    /** The letters in which a beach is told. */
    private static final class Letters {
        private final int[] signs = new int[LETTERS];
        private int size;

        private Letters() {
        }

        boolean isFull() {
            return size >= LETTERS;
        }

        int size() {
            return size;
        }

        void add(int sign) {
            if (size >= 0 && size < LETTERS) {
                signs[size] = sign;
                size++;
            }
        }

        void forget() {
            size = 0;
        }

        private int signAt(int place) {
            return place >= 0 && place < size && place < LETTERS ? signs[place] : NONE;
        }

        private boolean isDigit(int place) {
            return signAt(place) >= '0' && signAt(place) <= '9';
        }

        private int digit(int place) {
            return isDigit(place) ? signAt(place) - '0' : 0;
        }

        private int twoDigits(int place) {
            return 10 * digit(place) + digit(place + 1);
        }

        private static int digitsBehind(int sign) {
            switch (sign) {
                case 'w': return 4;
                case 'r': return 1;
                case 'f': return 1;
                case 'x': return 2;
                case 'p': return 0;
                case 'h': return 2;
                default: return NONE;
            }
        }

        /** Of the statement that begins there, with its sign and the one behind it. */
        int lengthAt(int place) {
            return Math.max(0, digitsBehind(signAt(place))) + 2;
        }

        /** Where the text is no row of statements, whatever they say; NONE where it is one. */
        int lackPlace() {
            if (size == 0) {
                return 0;
            }
            int place = 0;
            for (int statements = 0; statements < LETTERS && place < size; statements++) {
                int digits = digitsBehind(signAt(place));
                if (digits < 0) {
                    return place;
                }
                // a sign past the end is none, so the first place that lacks one is the end
                for (int i = 1; i <= digits; i++) {
                    if (!isDigit(place + i)) {
                        return place + i;
                    }
                }
                if (signAt(place + digits + 1) != ';') {
                    return place + digits + 1;
                }
                place += lengthAt(place);
            }
            return NONE;
        }

        /** The statement that begins there comes on the beach, if it is as it must be: whether it is. */
        boolean comes(int place, Beach on) {
            if (on == null) {
                return false;
            }
            int one = digit(place + 1);
            int two = digit(place + 2);
            switch (signAt(place)) {
                case 'w': return built(one, two, twoDigits(place + 3), on);
                case 'r': return lost(one, on);
                case 'f': return wornBy(one, 0, on);
                case 'x': return wornBy(one, two, on);
                case 'p': return paid(on);
                case 'h': return passed(twoDigits(place + 1), on);
                default: return false;
            }
        }

        private static boolean built(int kind, int figure, int cell, Beach on) {
            if (!isKind(kind) || !isCell(cell) || on.works >= WORKS || on.workIn(cell) >= 0) {
                return false;
            }
            on.builds(kind, figure, cell);
            return true;
        }

        private static boolean lost(int work, Beach on) {
            boolean stood = on.stands(work);
            on.loses(work);
            return stood;
        }

        private static boolean wornBy(int work, int by, Beach on) {
            if (!on.stands(work)) {
                return false;
            }
            on.wears(work, by);
            return true;
        }

        private static boolean paid(Beach on) {
            on.settles();
            return true;
        }

        private static boolean passed(int n, Beach on) {
            if (n < 1 || n > MOST_AHEAD || on.hour + n > MOST_HOUR) {
                return false;
            }
            on.goesOn(n);
            return true;
        }
    }
}
