import java.util.ArrayDeque;
import java.util.ArrayList;
import java.util.Arrays;
import java.util.HashSet;
import java.util.List;
import java.util.Set;
import java.util.function.ToIntFunction;

/** The document once more, in the slowest and plainest way, to compare the class with. */
final class Model {
    private static final int[] UNDER = {-1, 0, 0, 1, 1, 3};

    private static final class Work {
        final int kind;
        final int figure;
        final int cell;
        final int worn;
        final boolean stands;

        Work(int kind, int figure, int cell, int worn, boolean stands) {
            this.kind = kind;
            this.figure = figure;
            this.cell = cell;
            this.worn = worn;
            this.stands = stands;
        }

        Work worn(int by) {
            return new Work(kind, figure, cell, by, stands);
        }

        Work gone() {
            return new Work(kind, figure, cell, worn, false);
        }

        Work as(int otherKind, int otherFigure) {
            return new Work(otherKind, otherFigure, cell, worn, stands);
        }
    }

    /** Never changed: every change makes another one. */
    private static final class State {
        final List<Work> works;
        final int hour;
        final int purse;
        final int owed;

        State(List<Work> works, int hour, int purse, int owed) {
            this.works = works;
            this.hour = hour;
            this.purse = purse;
            this.owed = owed;
        }

        State with(Work more) {
            List<Work> all = new ArrayList<>(works);
            all.add(more);
            return new State(all, hour, purse, owed);
        }

        State with(int number, Work other) {
            List<Work> all = new ArrayList<>(works);
            all.set(number, other);
            return new State(all, hour, purse, owed);
        }

        State at(int otherHour) {
            return new State(works, otherHour, purse, owed);
        }

        State paid() {
            return new State(works, hour, Math.max(purse - owed, 0), 0);
        }

        int in(int cell) {
            for (int i = 0; i < works.size(); i++) {
                if (works.get(i).stands && works.get(i).cell == cell) {
                    return i;
                }
            }
            return -9;
        }

        int bits() {
            int bits = 0;
            for (int i = 0; i < works.size(); i++) {
                bits += works.get(i).stands ? 1 << i : 0;
            }
            return bits;
        }

        int standing() {
            return (int) works.stream().filter(w -> w.stands).count();
        }

        Set<Integer> wet() {
            return wet(tide(hour));
        }

        Set<Integer> wet(int level) {
            Set<Integer> seen = new HashSet<>();
            ArrayDeque<Integer> waiting = new ArrayDeque<>();
            for (int cell = 20; cell < 25; cell++) {
                enter(cell, level, seen, waiting);
            }
            while (!waiting.isEmpty()) {
                int cell = waiting.remove();
                for (int next = 0; next < 25; next++) {
                    if (steps(cell, next) == 1) {
                        enter(next, level, seen, waiting);
                    }
                }
            }
            return seen;
        }

        private void enter(int cell, int level, Set<Integer> seen, ArrayDeque<Integer> waiting) {
            boolean low = cell / 5 >= 5 - level;
            boolean stopped = in(cell) >= 0 && stops(works.get(in(cell)).kind);
            if (low && !stopped && seen.add(cell)) {
                waiting.add(cell);
            }
        }

        State later(int n) {
            State state = this;
            for (int i = 0; i < n; i++) {
                state = state.next(0, new HashSet<>());
            }
            return state;
        }

        State next(int swell, Set<Integer> paying) {
            Set<Integer> wet = wet(Math.min(5, tide(hour + 1) + swell));
            List<Work> all = new ArrayList<>();
            int purseThen = purse;
            int owedThen = owed;
            for (int i = 0; i < works.size(); i++) {
                Work work = works.get(i);
                if (work.stands) {
                    int cell = work.cell;
                    boolean touched = wet.stream().anyMatch(c -> steps(c, cell) <= 1);
                    Work then = touched ? work.worn(Math.min(99, work.worn + 1)) : work;
                    if (!wet.contains(cell) && !paying.contains(i)) {
                        purseThen = Math.min(9999, purseThen + lets(work.kind, work.figure));
                        owedThen = Math.min(9999, owedThen + rate(work.kind, work.figure));
                    }
                    all.add(then.worn > hold(work.kind, work.figure) ? then.gone() : then);
                } else {
                    all.add(work);
                }
            }
            return new State(all, hour + 1, purseThen, owedThen);
        }
    }

    static int steps(int from, int to) {
        return Math.abs(from / 5 - to / 5) + Math.abs(from % 5 - to % 5);
    }

    private static int tide(int hour) {
        int[] levels = {0, 0, 1, 2, 3, 4, 5, 4, 3, 2, 1, 0};
        return levels[hour % 12];
    }

    private static boolean stops(int kind) {
        return kind == 0 || kind != 2 && stops(UNDER[kind]);
    }

    private static int hold(int kind, int figure) {
        switch (kind) {
            case 0: return figure / 3 + 1;
            case 2: return figure + 2;
            case 3: return hold(1, figure) * 2;
            case 5: return hold(3, figure) - 1;
            default: return kind == 1 ? hold(0, figure) + 1 : hold(1, figure);
        }
    }

    private static int rate(int kind, int figure) {
        int[] rates = {figure, figure + 10, 5, 3 * (figure + 10) - 10, 20, 6 * (figure + 10) - 20};
        return rates[kind];
    }

    private static int lets(int kind, int figure) {
        int[] sums = {0, figure, 0, figure + 5, 7, 2 * figure + 5};
        return sums[kind];
    }

    private State now = new State(new ArrayList<>(), 0, 0, 0);
    private State picture = null;
    private final List<State> undo = new ArrayList<>();
    private final StringBuilder text = new StringBuilder();
    private final List<Integer> told = new ArrayList<>();
    private final int[] refusals = new int[7];

    /** Answers the call of that name as the class is due to. */
    long call(String name, int... a) {
        long answer = first(name, a);
        if (answer == Long.MIN_VALUE) {
            answer = second(name, a);
        }
        return answer;
    }

    private long first(String name, int[] a) {
        switch (name) {
            case "feed": return feed(a[0]);
            case "beach": return beach();
            case "workOf": return workOf(a[0], a[1]);
            case "at": return cell(a[0]) ? now.in(a[0]) : no(1);
            case "work": return work(a[0], a[1], a[2]);
            case "razes": return razes(a[0]);
            case "fixes": return fixes(a[0]);
            case "pays": return pays();
            case "hours": return hours(a[0]);
            case "back": return back();
            case "level": return bad(a[0], 0, 60) ? no(bound(a[0], 0)) : tide(now.hour + a[0]);
            case "wet": return bad(a[0], 0, 60) ? no(bound(a[0], 0)) : bits(now.later(a[0]).wet());
            case "then": return then(a[0], a[1]);
            case "floods": return floods(a[0]);
            case "dry": return cell(a[0]) ? dry(a[0]) : no(1);
            case "driest": return driest(a[0]);
            case "falls": return falls(a[0]);
            case "keep": return keep(a[0], a[1], a[2]);
            case "best": return best(a[0], a[1], a[2], a[3]);
            case "dredge": return dredge(a[0]);
            case "round": return round(a[0]);
            default: return Long.MIN_VALUE;
        }
    }

    private long second(String name, int[] a) {
        switch (name) {
            case "assessed": return assessed(a[0]);
            case "whatWas": return whatWas(a[0], a[1]);
            case "howHigh": return howHigh();
            case "two": return two(a[0], a[1]);
            case "swells": return swells(a[0], a[1], a[2], a[3]);
            case "shares": return shares(a[0], a[1]);
            case "weakest": return weakest(a[0]);
            case "mean": return mean(a[0]);
            case "low": return low();
            case "sand": return sand();
            case "mended": return mended(a[0], a[1]);
            case "pairs": return pairs(a[0]);
            case "turrets": return turrets(a[0]);
            case "row": return row(a[0]);
            case "judge": return judge();
            case "clear": return cleared();
            case "lots": return lots(a[0], a[1], a[2]);
            case "image": picture = now; return now.hour;
            case "restore": return restore();
            case "count": return count(a[0]);
            default: throw new IllegalArgumentException(name);
        }
    }

    private int no(int which) {
        refusals[which]++;
        return -which;
    }

    private static boolean bad(int n, int least, int most) {
        return n < least || n > most;
    }

    private static int bound(int n, int least) {
        return n < least ? 4 : 6;
    }

    private static boolean cell(int cell) {
        return cell >= 0 && cell < 25;
    }

    private boolean known(int work) {
        return work >= 0 && work < now.works.size();
    }

    private static int bits(Set<Integer> cells) {
        return cells.stream().mapToInt(c -> 1 << c).sum();
    }

    private int feed(int letter) {
        if (letter < 0) {
            return no(4);
        }
        if (letter > 255 || text.length() == 96) {
            return no(6);
        }
        text.append((char) letter);
        return text.length();
    }

    private int beach() {
        String all = text.toString();
        text.setLength(0);
        int place = lack(all);
        if (place >= 0) {
            return -1000 - place;
        }
        State state = now;
        int statements = 0;
        place = 0;
        while (place < all.length()) {
            int end = all.indexOf(';', place);
            state = after(state, all.substring(place, end));
            if (state == null) {
                return -2000 - place;
            }
            statements++;
            place = end + 1;
        }
        now = state;
        undo.clear();
        return statements;
    }

    /** The longest beginning that some text of statements has; -1 where the text is one. */
    private static int lack(String all) {
        String statement = "(w[0-9]{4}|[rf][0-9]|x[0-9]{2}|p|h[0-9]{2});";
        if (all.matches("(" + statement + ")+")) {
            return -1;
        }
        String[] ends = {"", "0;", "00;", "000;", "0000;", ";", "p;"};
        for (int length = all.length(); length > 0; length--) {
            for (String end : ends) {
                if ((all.substring(0, length) + end).matches("(" + statement + ")+")) {
                    return length;
                }
            }
        }
        return 0;
    }

    private static State after(State state, String statement) {
        char sign = statement.charAt(0);
        if (sign == 'p') {
            return state.paid();
        }
        int number = Integer.parseInt(statement.substring(1));
        if (sign == 'h') {
            return bad(number, 1, 60) || state.hour + number > 999 ? null : state.later(number);
        }
        if (sign == 'w') {
            int cell = number % 100;
            int kind = number / 1000;
            boolean so = kind < 6 && cell(cell) && state.works.size() < 8 && state.in(cell) == -9;
            return so ? state.with(new Work(kind, number / 100 % 10, cell, 0, true)) : null;
        }
        int work = statement.charAt(1) - '0';
        if (work >= state.works.size() || !state.works.get(work).stands) {
            return null;
        }
        Work was = state.works.get(work);
        if (sign == 'r') {
            return state.with(work, was.gone());
        }
        return state.with(work, was.worn(sign == 'f' ? 0 : number % 10));
    }

    private int workOf(int number, int what) {
        if (!known(number)) {
            return no(1);
        }
        if (bad(what, 0, 8)) {
            return no(2);
        }
        Work work = now.works.get(number);
        int[] answers = {work.kind, work.figure, work.cell, work.worn, work.stands ? 1 : 0,
            hold(work.kind, work.figure), rate(work.kind, work.figure), lets(work.kind, work.figure),
            stops(work.kind) ? 1 : 0};
        return answers[what];
    }

    private int work(int kind, int figure, int cell) {
        if (bad(kind, 0, 5)) {
            return no(2);
        }
        if (bad(figure, 0, 9)) {
            return no(bound(figure, 0));
        }
        if (now.works.size() == 8) {
            return no(6);
        }
        if (!cell(cell)) {
            return no(1);
        }
        if (now.in(cell) != -9) {
            return no(3);
        }
        now = now.with(new Work(kind, figure, cell, 0, true));
        undo.clear();
        return now.works.size() - 1;
    }

    private void keepForBack() {
        undo.add(now);
        if (undo.size() > 8) {
            undo.remove(0);
        }
    }

    private int razes(int number) {
        if (!known(number)) {
            return no(1);
        }
        if (!now.works.get(number).stands) {
            return no(3);
        }
        keepForBack();
        now = now.with(number, now.works.get(number).gone());
        return now.standing();
    }

    private int fixes(int number) {
        if (!known(number)) {
            return no(1);
        }
        if (!now.works.get(number).stands) {
            return no(3);
        }
        keepForBack();
        int was = now.works.get(number).worn;
        now = now.with(number, now.works.get(number).worn(0));
        return was;
    }

    private int pays() {
        keepForBack();
        int was = now.owed;
        now = now.paid();
        return was;
    }

    private int hours(int n) {
        if (n < 1) {
            return no(4);
        }
        if (n > 60 || now.hour + n > 999) {
            return no(6);
        }
        keepForBack();
        now = now.later(n);
        return now.purse;
    }

    private int back() {
        if (undo.isEmpty()) {
            return no(3);
        }
        now = undo.remove(undo.size() - 1);
        return undo.size();
    }

    private int then(int n, int what) {
        if (bad(n, 0, 60)) {
            return no(bound(n, 0));
        }
        if (bad(what, 0, 2)) {
            return no(2);
        }
        State state = now.later(n);
        return what == 0 ? state.bits() : what == 1 ? state.purse : state.owed;
    }

    private int floods(int cell) {
        if (!cell(cell)) {
            return no(1);
        }
        for (int n = 0; n <= 60; n++) {
            if (now.later(n).wet().contains(cell)) {
                return n;
            }
        }
        return -9;
    }

    private int dry(int cell) {
        int often = 0;
        State state = now;
        for (int n = 1; n <= 60; n++) {
            state = state.later(1);
            often += state.wet().contains(cell) ? 0 : 1;
        }
        return often;
    }

    private int driest(int what) {
        if (bad(what, 0, 1)) {
            return no(2);
        }
        int[] often = new int[25];
        State state = now;
        for (int n = 1; n <= 60; n++) {
            state = state.later(1);
            Set<Integer> wet = state.wet();
            for (int cell = 0; cell < 25; cell++) {
                often[cell] += wet.contains(cell) ? 0 : 1;
            }
        }
        int most = Arrays.stream(often).max().getAsInt();
        return what == 1 ? most : firstWith(often, most);
    }

    private static int firstWith(int[] numbers, int number) {
        for (int i = 0; i < numbers.length; i++) {
            if (numbers[i] == number) {
                return i;
            }
        }
        return -9;
    }

    private int fallsOf(int number) {
        State state = now;
        for (int n = 0; n <= 60; n++) {
            if (!state.works.get(number).stands) {
                return n;
            }
            state = state.later(1);
        }
        return -9;
    }

    private int falls(int number) {
        if (number != -1 && !known(number)) {
            return no(1);
        }
        if (number != -1) {
            return fallsOf(number);
        }
        int first = -9;
        int least = 61;
        for (int i = 0; i < now.works.size(); i++) {
            int behind = now.works.get(i).stands ? fallsOf(i) : -9;
            if (behind >= 0 && behind < least) {
                least = behind;
                first = i;
            }
        }
        return first;
    }

    private static boolean staysDry(State from, int cell, int n) {
        State state = from;
        for (int i = 0; i <= n; i++) {
            if (state.wet().contains(cell)) {
                return false;
            }
            state = state.later(1);
        }
        return true;
    }

    private int keep(int cell, int n, int what) {
        if (!cell(cell)) {
            return no(1);
        }
        if (bad(n, 1, 24)) {
            return no(bound(n, 1));
        }
        if (bad(what, 0, 1)) {
            return no(2);
        }
        if (staysDry(now, cell, n)) {
            return what == 0 ? 0 : -9;
        }
        List<Integer> free = new ArrayList<>();
        for (int c = 0; c < 25; c++) {
            if (now.in(c) == -9) {
                free.add(c);
            }
        }
        for (int one : free) {
            if (staysDry(now.with(new Work(0, 9, one, 0, true)), cell, n)) {
                return what == 0 ? 1 : one;
            }
        }
        for (int one : free) {
            State with = now.with(new Work(0, 9, one, 0, true));
            for (int other : free) {
                if (other > one && staysDry(with.with(new Work(0, 9, other, 0, true)), cell, n)) {
                    return what == 0 ? 2 : one;
                }
            }
        }
        return -9;
    }

    private int best(int kind, int figure, int n, int what) {
        if (bad(kind, 0, 5) || bad(what, 0, 1)) {
            return no(2);
        }
        if (figure < 0 || n < 0) {
            return no(4);
        }
        if (figure > 9 || n > 60 || now.works.size() == 8) {
            return no(6);
        }
        int[] purses = new int[25];
        Arrays.fill(purses, -1);
        for (int c = 0; c < 25; c++) {
            if (now.in(c) == -9) {
                purses[c] = now.with(new Work(kind, figure, c, 0, true)).later(n).purse;
            }
        }
        int most = Arrays.stream(purses).max().getAsInt();
        return what == 1 ? most : firstWith(purses, most);
    }

    private int dredge(int n) {
        if (bad(n, 0, 60)) {
            return no(bound(n, 0));
        }
        ToIntFunction<State> left = state -> state.later(n).purse - state.later(n).owed;
        int most = left.applyAsInt(now);
        int best = -9;
        for (int i = 0; i < now.works.size(); i++) {
            if (now.works.get(i).stands) {
                int sum = left.applyAsInt(now.with(i, now.works.get(i).gone()));
                if (sum > most) {
                    most = sum;
                    best = i;
                }
            }
        }
        return best;
    }

    private int round(int i) {
        if (i < -1) {
            return no(4);
        }
        List<Integer> all = new ArrayList<>();
        for (int w = 0; w < now.works.size(); w++) {
            if (now.works.get(w).stands) {
                all.add(w);
            }
        }
        int[] route = new int[all.size()];
        int[] best = new int[all.size() + 1];
        best[0] = Integer.MAX_VALUE;
        orders(all, new boolean[all.size()], route, 0, 0, best);
        if (i == -1) {
            return best[0];
        }
        return i < all.size() ? now.works.get(best[i + 1]).cell : -9;
    }

    /** All orders, by numbers; best holds the steps of the best so far, then its works. */
    private void orders(List<Integer> all, boolean[] used, int[] route, int done, int steps, int[] best) {
        if (steps >= best[0]) {
            return;
        }
        if (done == all.size()) {
            best[0] = steps;
            System.arraycopy(route, 0, best, 1, done);
            return;
        }
        for (int i = 0; i < all.size(); i++) {
            if (!used[i]) {
                used[i] = true;
                route[done] = all.get(i);
                int from = done == 0 ? 0 : now.works.get(route[done - 1]).cell;
                int more = steps(from, now.works.get(all.get(i)).cell);
                orders(all, used, route, done + 1, steps + more, best);
                used[i] = false;
            }
        }
    }

    private int[] overStanding(ToIntFunction<Work> what, int else_) {
        return now.works.stream().mapToInt(w -> w.stands ? what.applyAsInt(w) : else_).toArray();
    }

    private int leastOf(ToIntFunction<Work> what) {
        int[] numbers = overStanding(what, Integer.MAX_VALUE);
        int least = Arrays.stream(numbers).min().orElse(Integer.MAX_VALUE);
        return least == Integer.MAX_VALUE ? -9 : firstWith(numbers, least);
    }

    private int assessed(int what) {
        if (bad(what, 0, 3)) {
            return no(2);
        }
        if (what == 0) {
            return Arrays.stream(overStanding(w -> rate(w.kind, w.figure), 0)).sum();
        }
        if (what == 1) {
            return leastOf(w -> -rate(w.kind, w.figure));
        }
        if (what == 2) {
            return now.owed > now.purse ? now.owed - now.purse : 0;
        }
        int bits = 0;
        for (int i = 0; i < now.works.size(); i++) {
            Work work = now.works.get(i);
            bits |= work.stands && !now.wet(5).contains(work.cell) ? 1 << i : 0;
        }
        return bits;
    }

    private int whatWas(int number, int what) {
        if (!known(number)) {
            return no(1);
        }
        if (bad(what, 0, 1)) {
            return no(2);
        }
        int bits = 0;
        Work work = now.works.get(number);
        for (int i = 0; i < (what == 0 ? 6 : 10); i++) {
            State from = now.with(number, what == 0 ? work.as(i, work.figure) : work.as(work.kind, i));
            boolean so = true;
            for (int h = 0; h < told.size(); h++) {
                so &= from.later(h).works.get(number).worn == told.get(h);
            }
            bits |= so ? 1 << i : 0;
        }
        return bits;
    }

    private int howHigh() {
        int bits = 0;
        for (int hour = 0; hour < 12; hour++) {
            boolean so = true;
            for (int h = 0; h < told.size(); h++) {
                so &= now.at(hour).later(h).wet().size() == told.get(h);
            }
            bits |= so ? 1 << hour : 0;
        }
        return bits;
    }

    private int two(int one, int other) {
        if (!known(one) || !known(other) || one == other) {
            return no(1);
        }
        if (!now.works.get(one).stands || !now.works.get(other).stands) {
            return no(3);
        }
        int[][] purse = new int[2][2];
        int[][] owed = new int[2][2];
        for (int a = 0; a < 2; a++) {
            for (int b = 0; b < 2; b++) {
                Set<Integer> paying = new HashSet<>();
                if (a == 1) {
                    paying.add(one);
                }
                if (b == 1) {
                    paying.add(other);
                }
                State state = now;
                for (int h = 0; h < 6; h++) {
                    state = state.next(0, paying);
                }
                purse[a][b] = state.purse;
                owed[a][b] = state.owed;
            }
        }
        for (int a = 0; a < 2; a++) {
            for (int b = 0; b < 2; b++) {
                if (purse[1 - a][b] <= purse[a][b] && owed[a][1 - b] >= owed[a][b]) {
                    return a * 10 + b;
                }
            }
        }
        return -9;
    }

    private static long ways(State state, int number, int n, int t) {
        if (n == 0) {
            return state.works.get(number).stands ? 1 : 0;
        }
        return ways(state.next(1, new HashSet<>()), number, n - 1, t)
            + (t - 1) * ways(state.next(0, new HashSet<>()), number, n - 1, t);
    }

    private long swells(int number, int n, int t, int part) {
        long top = 4000000000000000000L;
        if (!known(number)) {
            return top - no(1);
        }
        if (n < 0 || t < 2) {
            return top - no(4);
        }
        if (n > 7 || t > 20) {
            return top - no(6);
        }
        if (bad(part, 0, 1)) {
            return top - no(2);
        }
        long below = 1;
        for (int i = 0; i < n; i++) {
            below *= t;
        }
        return lowest(ways(now, number, n, t), below, part);
    }

    private static long lowest(long above, long below, int part) {
        if (above == 0) {
            return part;
        }
        long by = java.math.BigInteger.valueOf(above).gcd(java.math.BigInteger.valueOf(below)).longValue();
        return part == 0 ? above / by : below / by;
    }

    private int shares(int n, int what) {
        if (bad(n, 1, 9)) {
            return no(bound(n, 1));
        }
        if (bad(what, 0, 1)) {
            return no(2);
        }
        return what == 0 ? now.purse / n : now.purse - now.purse / n * n;
    }

    private int weakest(int what) {
        if (bad(what, 0, 3)) {
            return no(2);
        }
        if (what == 0) {
            return leastOf(w -> hold(w.kind, w.figure) - w.worn);
        }
        if (what == 2) {
            return leastOf(w -> w.cell / 5);
        }
        if (what == 3) {
            return (int) now.works.stream().filter(w -> !w.stands).count();
        }
        int bits = 0;
        for (int i = 0; i < now.works.size(); i++) {
            Work work = now.works.get(i);
            boolean alone = now.works.stream().noneMatch(w -> w.stands && steps(w.cell, work.cell) == 1);
            bits |= work.stands && alone ? 1 << i : 0;
        }
        return bits;
    }

    private long mean(int part) {
        if (bad(part, 0, 1)) {
            return 4000000000000000000L - no(2);
        }
        return lowest(Arrays.stream(overStanding(w -> rate(w.kind, w.figure), 0)).sum(), now.standing(), part);
    }

    private int low() {
        int n = 0;
        while (tide(now.hour + n) != 0) {
            n++;
        }
        return n;
    }

    private int sand() {
        for (int n = 0; n <= 60; n++) {
            if (now.later(n).standing() == 0) {
                return n;
            }
        }
        return -9;
    }

    private int mended(int number, int n) {
        if (!known(number)) {
            return 1000000000 - no(1);
        }
        if (bad(n, 0, 60)) {
            return 1000000000 - no(bound(n, 0));
        }
        return now.with(number, now.works.get(number).worn(0)).later(n).purse - now.later(n).purse;
    }

    private int pairs(int what) {
        if (bad(what, 0, 2)) {
            return no(2);
        }
        int free = 0;
        int number = 0;
        int spread = 0;
        for (int c = 0; c < 25; c++) {
            free += now.in(c) < 0 ? 1 << c : 0;
            for (int d = 0; d < c; d++) {
                if (now.in(c) >= 0 && now.in(d) >= 0) {
                    number += steps(c, d) == 1 ? 1 : 0;
                    spread = Math.max(spread, steps(c, d));
                }
            }
        }
        return what == 0 ? number : what == 1 ? spread : free;
    }

    private int turrets(int kind) {
        return bad(kind, 0, 5) ? no(2) : (int) now.works.stream().filter(w -> w.stands && w.kind == kind).count();
    }

    private int row(int v) {
        if (bad(v, 0, 99)) {
            return no(bound(v, 0));
        }
        if (told.size() == 12) {
            return no(6);
        }
        told.add(v);
        return told.size();
    }

    private int judge() {
        List<Integer> row = new ArrayList<>(told);
        told.clear();
        for (int i = 0; i < row.size(); i++) {
            if (i >= now.works.size() || rate(now.works.get(i).kind, now.works.get(i).figure) != row.get(i)) {
                return i;
            }
        }
        return -9;
    }

    private int cleared() {
        int had = told.size();
        told.clear();
        return had;
    }

    private int lots(int n, int z, int what) {
        if (bad(n, 1, 20)) {
            return no(bound(n, 1));
        }
        if (bad(what, 0, 1)) {
            return no(2);
        }
        int seed = z;
        int sum = 0;
        for (int lot = 0; lot < n; lot++) {
            State state = now;
            for (int i = 0; i < state.works.size(); i++) {
                if (state.works.get(i).stands) {
                    seed = (int) (seed * 1103515245L + 12345L);
                    long plain = seed < 0 ? seed + 2147483648L : seed;
                    state = state.with(i, state.works.get(i).worn((int) (plain / 65536 % 6)));
                }
            }
            state = state.later(12);
            sum += what == 0 ? state.standing() : state.purse;
        }
        return sum;
    }

    private int restore() {
        if (picture == null) {
            return no(3);
        }
        now = picture;
        undo.clear();
        return now.hour;
    }

    private int count(int what) {
        if (what >= 11 && what <= 16) {
            return refusals[what - 10];
        }
        if (bad(what, 0, 8)) {
            return -9;
        }
        int[] answers = {now.works.size(), now.hour, now.purse, now.owed, now.bits(), bits(now.wet()),
            text.length(), told.size(), undo.size()};
        return answers[what];
    }
}
