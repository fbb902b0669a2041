import java.util.Arrays;
import java.util.Random;

/** Runs of calls by chance (always the same ones), each answer compared with the model's. */
public final class ModelTest {
    private static final int RUNS = 240;
    private static final int CALLS = 512;
    private static final int[] EDGES = {-2147483648, -1000, -2, -1, 0, 1, 2, 3, 4, 5, 6, 7, 8, 9, 10, 11, 12, 13,
        16, 17, 19, 20, 21, 24, 25, 59, 60, 61, 95, 96, 97, 99, 100, 255, 256, 998, 999, 1000, 2147483647};

    private final Random chance;
    private CastlesAreAssessed x = new CastlesAreAssessed();
    private Model model = new Model();
    private int calls;
    private String last = "";

    private ModelTest(long seed) {
        chance = new Random(seed);
    }

    public static void main(String[] args) {
        for (int run = 0; run < RUNS && !Check.anyWrong(); run++) {
            new ModelTest(run).run(run);
        }
        Check.ends();
    }

    private void run(int run) {
        while (calls < CALLS - 100 && !Check.anyWrong()) {
            int what = chance.nextInt(100);
            if (what < 12) {
                tells(text());
            } else if (what < 20) {
                rowFromWorn();
            } else if (what < 24) {
                rowFromWet();
            } else if (what < 34) {
                call("work", below(6), below(10), below(25));
            } else if (what < 40) {
                call("hours", 1 + below(chance.nextInt(4) == 0 ? 60 : 6));
            } else {
                any();
            }
        }
        if (Check.anyWrong()) {
            System.out.println("in run " + run + ", call " + calls + ": " + last);
        }
    }

    private long call(String name, int... a) {
        calls++;
        last = name + Arrays.toString(a);
        long want = model.call(name, a);
        Check.due(last, Calls.of(x, name, a), want);
        for (int what = 0; what <= 16 && calls % 5 == 0; what++) {
            Check.due(last + ", count(" + what + ")", x.count(what), model.call("count", what));
        }
        return want;
    }

    private int below(int n) {
        return chance.nextInt(n);
    }

    private void any() {
        String name = Calls.NAMES[below(Calls.NAMES.length)];
        boolean dear = name.equals("keep") || name.equals("driest") || name.equals("best");
        if (dear && below(3) != 0 || name.equals("restore") && below(2) != 0) {
            return;
        }
        int[] a = new int[Calls.arguments(name)];
        for (int i = 0; i < a.length; i++) {
            a[i] = below(12) == 0 ? EDGES[below(EDGES.length)] : usual(name, i);
        }
        call(name, a);
    }

    private int usual(String name, int place) {
        switch (name + place) {
            case "at0": case "floods0": case "dry0": case "keep0": case "work2": return below(25);
            case "workOf1": return below(10);
            case "hours0": case "level0": case "wet0": case "then0": case "dredge0": case "mended1":
            case "best2": return below(61);
            case "keep1": return 1 + below(24);
            case "round0": return below(10) - 1;
            case "falls0": return below(9) - 1;
            case "swells2": return 2 + below(19);
            case "lots0": return 1 + below(20);
            case "lots1": return chance.nextInt();
            case "row0": return below(100);
            case "feed0": return below(256);
            case "count0": return below(19);
            case "best1": case "work1": case "shares0": return below(10);
            case "best0": case "work0": case "turrets0": return below(6);
            case "assessed0": case "weakest0": return below(4);
            default: return usualOfMost(name, place);
        }
    }

    private int usualOfMost(String name, int place) {
        boolean work = place == 0 || name.equals("two");
        boolean what = name.equals("driest") || name.equals("mean") || name.equals("pairs");
        return work && !what ? below(8) : below(name.equals("swells") && place == 1 ? 8 : 3);
    }

    private void tells(String text) {
        if (below(4) == 0) {
            call("feed", EDGES[below(EDGES.length)]);
            call("beach");
        }
        for (int i = 0; i < text.length(); i++) {
            call("feed", text.charAt(i));
        }
        call("beach");
    }

    private String text() {
        StringBuilder text = new StringBuilder();
        int statements = below(7);
        for (int i = 0; i < statements; i++) {
            String[] all = {"w" + below(6) + below(10) + two(below(25)), "w" + below(6) + below(10) + two(below(25)),
                "w" + below(8) + below(10) + two(below(30)), "r" + below(5), "f" + below(8), "x" + below(6) + below(10),
                "p", "h" + two(below(13)), "h" + two(below(70))};
            text.append(all[below(all.length)]).append(';');
        }
        if (below(5) == 0 && text.length() > 0) {
            int place = below(text.length());
            String wrong = "w0;rzhp9x f";
            text.setCharAt(place, wrong.charAt(below(wrong.length())));
        }
        if (below(8) == 0 && text.length() > 0) {
            text.setLength(below(text.length()));
        }
        return text.toString();
    }

    private static String two(int n) {
        return n < 10 ? "0" + n : "" + n;
    }

    /** A row that some kind or figure of a work would make, so that what it was is not always none. */
    private void rowFromWorn() {
        call("clear");
        int work = below(8);
        long worn = Math.max(0, call("workOf", work, 3));
        int length = below(13);
        for (int i = 0; i < length; i++) {
            call("row", (int) Math.min(99, worn));
            worn += below(3) == 0 ? 0 : 1;
        }
        call("whatWas", work, 0);
        call("whatWas", work, 1);
    }

    private void rowFromWet() {
        call("clear");
        int length = below(6);
        for (int i = 0; i < length; i++) {
            call("row", Integer.bitCount((int) model.call("wet", i)));
        }
        call("howHigh");
        call("count", 7);
    }
}
