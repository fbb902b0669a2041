import java.util.Arrays;

/**
 * A run of calls in words on a new object: "hours 3 = 0" is a call and the answer that is due, "at 25 ! -1" one
 * that is refused (nothing else may change then, and that refusal alone is one more), "hours 3" one whose answer
 * is of no matter, "8x hours 3" eight of these, "letters p;p; = 4" feeds, "tell p;p; = 2" feeds and beach(),
 * "rows 1 2 = 2" two numbers of the row.
 */
final class Script {
    /** Eight walls in cells 0 to 7. */
    static final String EIGHT = "w0000;w0001;w0002;w0003;w0004;w0005;w0006;w0007;";
    static final String HOUR_960 = "16x hours 60, ";
    static final String HOUR_999 = HOUR_960 + "hours 39, ";
    /** Eight duchies in cells 0 to 7, by which PURSE is more by 184 and OWED by 752 in an hour. */
    static final String DUCHIES = "tell w5900;w5901;w5902;w5903;w5904;w5905;w5906;w5907;, ";
    static final String TIDE =
        "fixes 0, fixes 1, fixes 2, fixes 3, fixes 4, fixes 5, fixes 6, fixes 7, hours 12, ";
    /** PURSE and OWED are 9999. */
    static final String RICH = DUCHIES + "hours 12, " + TIDE.repeat(4);

    private static final int MOST_CALLS = 512;
    private static final long OF_MENDED = 1000000000L;
    private static final long OF_LONGS = 4000000000000000000L;
    private static final int STATES = 9;

    private final String name;
    private final CastlesAreAssessed x = new CastlesAreAssessed();
    private int calls;

    private Script(String name) {
        this.name = name;
    }

    static void is(String name, String steps) {
        Script script = new Script(name);
        for (String step : steps.split(", ")) {
            script.step(step.trim());
        }
        Check.holds(name + ": no more than 512 calls", script.calls <= MOST_CALLS);
    }

    private void step(String step) {
        if (step.matches("\\d+x .*")) {
            int times = Integer.parseInt(step.substring(0, step.indexOf('x')));
            for (int i = 0; i < times; i++) {
                step(step.substring(step.indexOf(' ') + 1));
            }
        } else if (step.contains(" ! ")) {
            String[] sides = step.split(" ! ");
            refused(sides[0], Long.parseLong(sides[1]));
        } else if (step.contains(" = ")) {
            String[] sides = step.split(" = ");
            Check.due(name + ": " + sides[0], answer(sides[0]), Long.parseLong(sides[1]));
        } else {
            answer(step);
        }
    }

    private void refused(String call, long want) {
        long[] before = state();
        Check.due(name + ": " + call, answer(call), want);
        before[STATES + refusal(want) - 1]++;
        Check.holds(name + ": " + call + " changes that refusal alone", Arrays.equals(before, state()));
    }

    private static int refusal(long answer) {
        if (answer > OF_LONGS) {
            return (int) (answer - OF_LONGS);
        }
        return (int) (answer > OF_MENDED ? answer - OF_MENDED : -answer);
    }

    private long answer(String call) {
        String[] words = call.split(" ");
        if (words[0].equals("tell") || words[0].equals("letters")) {
            long letters = letters(words[1]);
            return words[0].equals("tell") ? answer("beach") : letters;
        }
        int[] a = new int[words.length - 1];
        for (int i = 0; i < a.length; i++) {
            a[i] = number(words[i + 1]);
        }
        if (words[0].equals("rows")) {
            return rows(a);
        }
        calls++;
        return Calls.of(x, words[0], a);
    }

    private static int number(String word) {
        switch (word) {
            case "LEAST": return Integer.MIN_VALUE;
            case "MOST": return Integer.MAX_VALUE;
            default: return Integer.parseInt(word);
        }
    }

    private long letters(String text) {
        for (int i = 0; i < text.length(); i++) {
            x.feed(text.charAt(i));
        }
        calls += text.length() + 1;
        return x.count(6);
    }

    private long rows(int[] numbers) {
        for (int number : numbers) {
            x.row(number);
        }
        calls += numbers.length + 1;
        return x.count(7);
    }

    /** All that can be read without a refusal: the counts, the refusals, the works. */
    private long[] state() {
        int works = x.count(0);
        long[] all = new long[STATES + 6 + 9 * works];
        for (int i = 0; i < STATES + 6; i++) {
            all[i] = x.count(i < STATES ? i : i - STATES + 11);
        }
        for (int work = 0; work < works; work++) {
            for (int what = 0; what < 9; what++) {
                all[STATES + 6 + 9 * work + what] = x.workOf(work, what);
            }
        }
        calls += all.length + 1;
        return all;
    }
}
