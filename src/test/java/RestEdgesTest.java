/** Each boundary case of the rest, by itself: promises 29 to 42. */
public final class RestEdgesTest {
    private static final int ALL = 33554431;
    private static final String BAR = "tell w0020;w0021;w0022;w0023;w0024;, ";
    private static final String LAST_AT_61 = "tell h05;w3900;w3901;w3905;x02;, ";
    private static final String NO_REFUSALS = "count 11 = 0, count 12 = 0, count 13 = 0, count 14 = 0, count 15 = 0, "
        + "count 16 = 0";

    public static void main(String[] args) {
        weakest();
        alone();
        highestAndRuins();
        mean();
        low();
        sand();
        mended();
        mendedByMore();
        pairs();
        spreadAndFree();
        turrets();
        row();
        judge();
        judgeAndTheRow();
        clear();
        lotsRefused();
        lots();
        lotsBySeed();
        image();
        restore();
        restoreAndWhatStays();
        count();
        countOfRefusals();
        countAtMost();
        Check.ends();
    }

    private static void is(String name, String steps) {
        Script.is(name, steps);
    }

    /** 29: weakest */
    private static void weakest() {
        is("weakest: no works", "weakest 0 = -9, weakest 1 = 0, weakest 2 = -9, weakest 3 = 0");
        is("weakest: what below", "weakest -1 ! -2");
        is("weakest: what above", "weakest 4 ! -2");
        is("weakest: what far off", "weakest LEAST ! -2, weakest MOST ! -2");
        is("weakest: all gone", "tell w0000;w0001;r0;r1;, weakest 0 = -9");
        is("weakest: the only one", "work 5 9 0, weakest 0 = 0");
        is("weakest: of several, the least", "tell w3000;w0001;w0202;, weakest 0 = 1");
        is("weakest: one gone is not it", "tell w0000;r0;w3001;, weakest 0 = 1");
        is("weakest: the first of two alike", "tell w0000;w0001;, weakest 0 = 0");
        is("weakest: the first, where others hold more", "tell w0000;w3001;w0302;, weakest 0 = 0");
        is("weakest: worn more than it holds", "tell w0000;x02;w0001;x13;w0002;x22;, weakest 0 = 1");
        is("weakest: worn as much as it holds", "tell w0000;w0901;x14;, weakest 0 = 1");
        is("weakest: the last of eight", "tell " + Script.EIGHT + "x71;, weakest 0 = 7");
    }

    /** 29: alone */
    private static void alone() {
        is("alone: the only one", "work 0 0 0, weakest 1 = 1");
        is("alone: all gone", "tell w0000;r0;, weakest 1 = 0");
        is("alone: beside one gone", "tell w0000;w0001;r1;, weakest 1 = 1");
        is("alone: left and right", "tell w0011;w0012;, weakest 1 = 0");
        is("alone: up and down", "tell w0007;w0012;, weakest 1 = 0");
        is("alone: askew", "tell w0006;w0012;, weakest 1 = 3");
        is("alone: cell 4 and cell 5", "tell w0004;w0005;, weakest 1 = 3");
        is("alone: one of three", "tell w0011;w0012;w0024;, weakest 1 = 4");
        is("alone: all eight", "tell w0000;w0002;w0004;w0006;w0008;w0010;w0012;w0014;, weakest 1 = 255");
        is("alone: none of eight", "tell " + Script.EIGHT + ", weakest 1 = 0");
    }

    /** 29: highest, ruins */
    private static void highestAndRuins() {
        is("highest: all gone", "tell w0000;r0;, weakest 2 = -9");
        is("highest: in the greatest row", "work 0 0 24, weakest 2 = 0");
        is("highest: in the least row", "tell w0020;w0004;, weakest 2 = 1");
        is("highest: of several in a row, the least number", "tell w0024;w0004;w0000;, weakest 2 = 1");
        is("highest: by rows, not by cells", "tell w0009;w0005;, weakest 2 = 0");
        is("highest: one gone is not it", "tell w0000;r0;w0024;, weakest 2 = 1");
        is("ruins: none of eight", "tell " + Script.EIGHT + ", weakest 3 = 0");
        is("ruins: all eight", "tell " + Script.EIGHT + "h60;, weakest 3 = 8");
        is("ruins: one razed", "tell w0000;w0001;r0;, weakest 3 = 1");
        is("ruins: two in one cell", "tell w0000;r0;w0000;r1;w0000;, weakest 3 = 2");
    }

    /** 30 */
    private static void mean() {
        is("mean: no works", "mean 0 = 0, mean 1 = 1");
        is("mean: all gone", "tell w5900;r0;, mean 0 = 0, mean 1 = 1");
        is("mean: part below", "mean -1 ! 4000000000000000002");
        is("mean: part above", "mean 2 ! 4000000000000000002");
        is("mean: part far off", "mean LEAST ! 4000000000000000002, mean MOST ! 4000000000000000002");
        is("mean: rate 0", "work 0 0 0, mean 0 = 0, mean 1 = 1");
        is("mean: rate 0 of two", "tell w0000;w0001;, mean 0 = 0, mean 1 = 1");
        is("mean: of one", "work 5 9 0, mean 0 = 94, mean 1 = 1");
        is("mean: in lowest terms", "tell w0200;w0401;, mean 0 = 3, mean 1 = 1");
        is("mean: in lowest terms, not whole", "tell w0100;w0101;w0102;w0303;, mean 0 = 3, mean 1 = 2");
        is("mean: below 1", "tell w0100;w0001;w0002;, mean 0 = 1, mean 1 = 3");
        is("mean: one gone is not in it", "tell w0900;w0401;w0302;r0;, mean 0 = 7, mean 1 = 2");
        is("mean: of eight, the greatest", Script.DUCHIES + "mean 0 = 94, mean 1 = 1");
        is("mean: of eight, not whole", "tell w0000;w0001;w0002;w0003;w0004;w0005;w0006;w0107;, mean 0 = 1, "
            + "mean 1 = 8");
    }

    /** 31 */
    private static void low() {
        int[] due = {0, 0, 9, 8, 7, 6, 5, 4, 3, 2, 1, 0, 0};
        is("low: at hour 0", "low = 0");
        for (int hour = 1; hour < due.length; hour++) {
            is("low: at hour " + hour, "hours " + hour + ", low = " + due[hour]);
        }
        is("low: at hour 999", Script.HOUR_999 + "low = 8");
        is("low: by no work's leave", BAR + "hours 2, low = 9");
        is("low: asked, the hour stays", "hours 2, low = 9, count 1 = 2");
    }

    /** 32 */
    private static void sand() {
        is("sand: no works", "sand = 0");
        is("sand: all gone", "tell w0000;w0001;r0;r1;, sand = 0");
        is("sand: behind 1", "tell w0000;x02;, sand = 1");
        is("sand: the last of two", "tell w0000;x02;w0022;, sand = 3");
        is("sand: behind 60", LAST_AT_61 + "hours 1, sand = 60");
        is("sand: behind 61", LAST_AT_61 + "sand = -9");
        is("sand: never", BAR + "sand = -9");
        is("sand: beyond hour 999", Script.HOUR_999 + "work 4 0 0, sand = 4");
        is("sand: asked, all stays", "work 0 0 22, sand = 3, count 4 = 1, count 1 = 0");
    }

    /** 33: refused */
    private static void mended() {
        is("mended: no works", "mended 0 0 ! 1000000001");
        is("mended: work below", "work 0 0 0, mended -1 0 ! 1000000001");
        is("mended: the next work", "work 0 0 0, mended 1 0 ! 1000000001");
        is("mended: work far off", "work 0 0 0, mended LEAST 0 ! 1000000001, mended MOST 0 ! 1000000001");
        is("mended: a ninth", "tell " + Script.EIGHT + ", mended 8 0 ! 1000000001, mended 7 0 = 0");
        is("mended: n below", "work 0 0 0, mended 0 -1 ! 1000000004");
        is("mended: n far below", "work 0 0 0, mended 0 LEAST ! 1000000004");
        is("mended: n above", "work 0 0 0, mended 0 61 ! 1000000006");
        is("mended: n far above", "work 0 0 0, mended 0 MOST ! 1000000006");
        is("mended: the work ahead of n below", "mended 0 -1 ! 1000000001");
        is("mended: the work ahead of n above", "mended 0 61 ! 1000000001");
    }

    /** 33: by how much more */
    private static void mendedByMore() {
        is("mended: behind no hours", "tell w4000;x09;, mended 0 0 = 0");
        is("mended: behind 1, nothing more yet", "tell w4000;x09;, mended 0 1 = 0");
        is("mended: behind 2", "tell w4000;x09;, mended 0 2 = 7");
        is("mended: behind 60", "tell w4000;x09;, mended 0 60 = 42");
        is("mended: not worn", "work 4 0 0, mended 0 60 = 0");
        is("mended: gone", "tell w4000;x09;r0;, mended 0 60 = 0");
        is("mended: by what it keeps dry", "tell w4000;w0005;x19;w0001;x29;, mended 1 60 = 70");
        is("mended: purse 9999 at most", Script.RICH + "mended 0 60 = 0");
        is("mended: asked, it is as worn", "tell w4000;x09;, mended 0 60 = 42, workOf 0 3 = 9, count 1 = 0, "
            + "count 2 = 0");
        is("mended: beyond hour 999", Script.HOUR_999 + "tell w4000;x09;, mended 0 60 = 21");
    }

    /** 34: pairs */
    private static void pairs() {
        is("pairs: no works", "pairs 0 = 0, pairs 1 = 0");
        is("pairs: what below", "pairs -1 ! -2");
        is("pairs: what above", "pairs 3 ! -2");
        is("pairs: what far off", "pairs LEAST ! -2, pairs MOST ! -2");
        is("pairs: one work", "work 0 0 0, pairs 0 = 0");
        is("pairs: left and right", "tell w0011;w0012;, pairs 0 = 1");
        is("pairs: up and down", "tell w0007;w0012;, pairs 0 = 1");
        is("pairs: askew", "tell w0006;w0012;, pairs 0 = 0");
        is("pairs: cell 4 and cell 5", "tell w0004;w0005;, pairs 0 = 0");
        is("pairs: one is gone", "tell w0011;w0012;r0;, pairs 0 = 0");
        is("pairs: gone and anew in the same cell", "tell w0011;w0012;r0;w0011;, pairs 0 = 1");
        is("pairs: the most, of eight", "tell w0000;w0001;w0002;w0005;w0006;w0007;w0010;w0011;, pairs 0 = 10");
    }

    /** 34: spread, free */
    private static void spreadAndFree() {
        is("spread: one work", "work 0 0 24, pairs 1 = 0");
        is("spread: all gone", "tell w0000;w0024;r0;r1;, pairs 1 = 0");
        is("spread: two, one gone", "tell w0000;w0024;r0;, pairs 1 = 0");
        is("spread: the least of two", "tell w0000;w0001;, pairs 1 = 1");
        is("spread: the greatest", "tell w0000;w0024;, pairs 1 = 8");
        is("spread: the greatest the other way", "tell w0004;w0020;, pairs 1 = 8");
        is("spread: cell 4 and cell 5", "tell w0004;w0005;, pairs 1 = 5");
        is("free: all", "pairs 2 = " + ALL);
        is("free: all but the first and the last", "tell w0000;w0024;, pairs 2 = " + (ALL - 1 - (1 << 24)));
        is("free: with eight", "tell " + Script.EIGHT + ", pairs 2 = " + (ALL - 255));
        is("free: where one is gone", "tell w0000;r0;, pairs 2 = " + ALL);
        is("free: all gone by hours", "work 0 0 22, hours 3, pairs 2 = " + ALL);
    }

    /** 35 */
    private static void turrets() {
        is("turrets: no works", "turrets 0 = 0, turrets 5 = 0");
        is("turrets: kind below", "turrets -1 ! -2");
        is("turrets: kind above", "turrets 6 ! -2");
        is("turrets: kind far off", "turrets LEAST ! -2, turrets MOST ! -2");
        is("turrets: the least kind", "work 0 0 0, turrets 0 = 1, turrets 1 = 0");
        is("turrets: the greatest kind", "work 5 0 0, turrets 5 = 1, turrets 4 = 0, turrets 3 = 0, turrets 1 = 0");
        is("turrets: eight of one kind", "tell " + Script.EIGHT + ", turrets 0 = 8");
        is("turrets: one gone", "tell w1000;w1001;r0;, turrets 1 = 1");
        is("turrets: all gone", "tell w1000;r0;, turrets 1 = 0");
    }

    /** 36 */
    private static void row() {
        is("row: the least number", "row 0 = 1");
        is("row: the greatest number", "row 99 = 1");
        is("row: below", "row -1 ! -4");
        is("row: far below", "row LEAST ! -4");
        is("row: above", "row 100 ! -6");
        is("row: far above", "row MOST ! -6");
        is("row: the twelfth", "rows 1 2 3 4 5 6 7 8 9 10 11 = 11, row 12 = 12");
        is("row: a thirteenth", "rows 1 2 3 4 5 6 7 8 9 10 11 12 = 12, row 13 ! -6, count 7 = 12");
        is("row: full, below", "rows 1 2 3 4 5 6 7 8 9 10 11 12, row -1 ! -4");
        is("row: full, above", "rows 1 2 3 4 5 6 7 8 9 10 11 12, row 100 ! -6");
        is("row: one refused is not in it", "row 100 ! -6, row -1 ! -4, row 25 = 1, howHigh = 64");
        is("row: one refused by a full row is not in it", "work 0 0 22, rows 0 0 1 2 3 4 5 5 5 5 5 5, row 6 ! -6, "
            + "whatWas 0 1 = 512");
    }

    /** 37 */
    private static void judge() {
        is("judge: an empty row", "judge = -9");
        is("judge: an empty row with works", "work 0 9 0, judge = -9");
        is("judge: all so", "tell w0000;w5901;, rows 0 94, judge = -9");
        is("judge: the first is not so", "tell w0000;w0001;, rows 1 1, judge = 0");
        is("judge: the second is not so", "tell w0000;w0001;, rows 0 1, judge = 1");
        is("judge: none there", "rows 0, judge = 0");
        is("judge: none there behind one", "work 0 9 0, rows 9 0, judge = 1");
        is("judge: fewer than there are", "tell w0900;w0801;, rows 9, judge = -9");
        is("judge: eight, all so", Script.DUCHIES + "rows 94 94 94 94 94 94 94 94, judge = -9");
        is("judge: eight, the last is not so", Script.DUCHIES + "rows 94 94 94 94 94 94 94 93, judge = 7");
        is("judge: a ninth", Script.DUCHIES + "rows 94 94 94 94 94 94 94 94 0, judge = 8");
        is("judge: a full row, eight so", Script.DUCHIES + "rows 94 94 94 94 94 94 94 94 94 94 94 94 = 12, "
            + "judge = 8");
        is("judge: a full row, none there", "rows 0 0 0 0 0 0 0 0 0 0 0 0 = 12, judge = 0");
        is("judge: one gone has its rate", "tell w0900;r0;, rows 9, judge = -9");
    }

    /** 37: whichever it answers, the row has none then */
    private static void judgeAndTheRow() {
        is("judge: the row has none then, all so", "work 0 9 0, rows 9, judge = -9, count 7 = 0, clear = 0");
        is("judge: the row has none then, one not so", "work 0 9 0, rows 8, judge = 0, count 7 = 0, judge = -9");
        is("judge: the row has none then, a full one", "rows 0 0 0 0 0 0 0 0 0 0 0 0 = 12, judge = 0, count 7 = 0, "
            + "row 5 = 1");
        is("judge: it has none then, an empty one", "judge = -9, count 7 = 0");
        is("judge: it is no refusal", "rows 0, judge = 0, judge = -9, " + NO_REFUSALS);
    }

    /** 38 */
    private static void clear() {
        is("clear: an empty row", "clear = 0");
        is("clear: one", "row 5, clear = 1, count 7 = 0");
        is("clear: a full one", "rows 1 2 3 4 5 6 7 8 9 10 11 12 = 12, clear = 12, count 7 = 0, row 5 = 1");
        is("clear: twice", "row 5, clear = 1, clear = 0");
        is("clear: what was in it is no more", "rows 1 1, clear = 2, rows 25, howHigh = 64");
        is("clear: letters stay", "feed 112, row 5, clear = 1, count 6 = 1");
    }

    /** 39: refused */
    private static void lotsRefused() {
        is("lots: n below", "lots 0 0 0 ! -4");
        is("lots: n far below", "lots -1 0 0 ! -4, lots LEAST 0 0 ! -4");
        is("lots: n above", "lots 21 0 0 ! -6");
        is("lots: n far above", "lots MOST 0 0 ! -6");
        is("lots: what below", "lots 1 0 -1 ! -2");
        is("lots: what above", "lots 1 0 2 ! -2");
        is("lots: what far off", "lots 1 0 LEAST ! -2, lots 1 0 MOST ! -2");
        is("lots: n below ahead of what", "lots 0 0 2 ! -4");
        is("lots: n above ahead of what", "lots 21 0 -1 ! -6");
    }

    /** 39: no works, gone ones, the fewest and the most beaches */
    private static void lots() {
        is("lots: no works", "lots 20 5 0 = 0, lots 20 5 1 = 0");
        is("lots: all gone", "tell w5900;r0;, lots 20 5 0 = 0, lots 20 5 1 = 0");
        is("lots: one beach", "work 3 6 0, lots 1 0 0 = 1");
        is("lots: twenty beaches", "work 3 9 0, lots 20 0 0 = 20");
        is("lots: one gone draws none", "tell w0000;r0;w4000;, lots 1 1 1 = 35");
        is("lots: worn anew in each, whatever it was", "tell w3900;x09;, lots 1 0 0 = 1");
        is("lots: purse of all together, with what there is", "tell w4000;h01;, lots 1 0 1 = 49, lots 2 0 1 = 98");
        is("lots: purse 9999 at most in each", Script.RICH + "lots 1 5 1 = 9999, lots 20 5 1 = 199980");
        is("lots: asked, all stays", "tell w3900;x09;, lots 20 5 0, count 1 = 0, count 2 = 0, workOf 0 3 = 9");
        is("lots: eight by eight draws", "tell w3000;w3002;w3004;w3020;w3022;w3024;w3010;w3014;, lots 1 LEAST 0 = 2");
    }

    /** 39: the draws by the seed, wrapping: a mint in cell 0 is gone the sooner the more it is worn */
    private static void lotsBySeed() {
        int[] purse = {49, 42, 35, 7, 7, 7};
        String[] seeds = {"0", "1", "-1", "MOST", "LEAST", "5", "7", "3"};
        int[][] draws = {{0, 0, 4, 1}, {2, 4, 3, 1}, {5, 5, 4, 0}, {5, 5, 4, 0}, {0, 0, 4, 1}, {1, 3, 2, 5},
            {4, 2, 2, 0}, {5, 3, 3, 2}};
        for (int i = 0; i < seeds.length; i++) {
            int sum = 0;
            for (int n = 1; n <= draws[i].length; n++) {
                sum += purse[draws[i][n - 1]];
                is("lots: seed " + seeds[i] + ", " + n, "work 4 0 0, lots " + n + " " + seeds[i] + " 1 = " + sum);
            }
        }
    }

    /** 40 */
    private static void image() {
        is("image: of a new object", "image = 0, restore = 0, count 0 = 0");
        is("image: the hour", "hours 7, image = 7");
        is("image: at hour 999", Script.HOUR_999 + "image = 999, restore = 999");
        is("image: another one in its place", "hours 2, image = 2, hours 3, image = 5, hours 1, restore = 5");
        is("image: it changes nothing", "tell w4000;x01;h01;, row 1, feed 112, hours 1, image = 2, count 2 = 14, "
            + "count 7 = 1, count 6 = 1, count 8 = 1, workOf 0 3 = 1");
        is("image: it is no refusal", "image = 0, " + NO_REFUSALS);
    }

    /** 41 */
    private static void restore() {
        is("restore: there is none", "restore ! -3");
        is("restore: none behind works", "work 0 0 0, hours 1, restore ! -3");
        is("restore: twice", "hours 2, image, hours 1, restore = 2, hours 1, restore = 2, restore = 2");
        is("restore: works that came are no more", "image, work 0 0 0, restore = 0, count 0 = 0, at 0 = -9, "
            + "workOf 0 0 ! -1");
        is("restore: eight works", "tell " + Script.EIGHT + "x75;, image, hours 60, restore = 0, count 4 = 255, "
            + "workOf 7 3 = 5");
        is("restore: works that were gone", "tell w0000;r0;, image, restore = 0, count 4 = 0, workOf 0 4 = 0");
        is("restore: worn", "tell w0000;x05;, image, fixes 0, restore = 0, workOf 0 3 = 5");
        is("restore: one razed", "work 0 0 0, image, razes 0, restore = 0, at 0 = 0");
        is("restore: purse and owed", "tell w4000;h01;, image, pays, restore = 1, count 2 = 7, count 3 = 20");
        is("restore: purse and owed at most", "image, " + Script.RICH + "count 2 = 9999, restore = 0, count 2 = 0, "
            + "count 3 = 0");
        is("restore: the image stays as it was", "work 0 0 0, image, restore = 0, razes 0, restore = 0, at 0 = 0");
    }

    /** 40, 41: what is not of the image */
    private static void restoreAndWhatStays() {
        is("restore: letters stay", "feed 112, image, feed 59, restore = 0, count 6 = 2, beach = 1");
        is("restore: letters told since stay away", "feed 112, image, feed 59, beach, restore = 0, count 6 = 0");
        is("restore: the row stays", "row 1, image, row 2, restore = 0, count 7 = 2");
        is("restore: the row cleared since stays so", "row 1, image, clear, restore = 0, count 7 = 0");
        is("restore: refusals stay", "image, at 25 ! -1, restore = 0, count 11 = 1");
        is("restore: nothing can be taken back", "image, hours 1, restore = 0, count 8 = 0, back ! -3");
        is("restore: what was to be taken back at the image neither", "hours 1, image, restore = 1, count 8 = 0");
        is("restore: the image itself is not taken back", "image, hours 1, back = 0, restore = 0");
        is("restore: a beach with a fault leaves it", "hours 3, image, tell r0; = -2000, restore = 3");
    }

    /** 42 */
    private static void count() {
        is("count: what below", "count -1 = -9");
        is("count: 9 and 10", "count 9 = -9, count 10 = -9");
        is("count: 17", "count 17 = -9");
        is("count: far off", "count LEAST = -9, count MOST = -9");
        is("count: another what is no refusal", "count -1, count 9, count 10, count 17, count MOST, " + NO_REFUSALS);
        is("count: works, gone ones too", "tell w0000;w0001;r0;, count 0 = 2, count 4 = 2");
        is("count: wet now", "hours 2, count 5 = " + (31 << 20) + ", hours 4, count 5 = " + ALL);
        is("count: wet now with a wall", "work 0 0 22, hours 2, count 5 = " + (27 << 20));
        is("count: wet never", BAR + "hours 6, count 5 = 0");
        is("count: letters behind a beach", "feed 112, count 6 = 1, beach = -1001, count 6 = 0");
    }

    /** 42: each refusal, by itself, and by the calls that answer otherwise */
    private static void countOfRefusals() {
        is("count: -1", "at 25 = -1, count 11 = 1, count 12 = 0, count 13 = 0, count 14 = 0, count 15 = 0, "
            + "count 16 = 0");
        is("count: -2", "mean 2, count 11 = 0, count 12 = 1, count 13 = 0, count 14 = 0, count 15 = 0, count 16 = 0");
        is("count: -3", "back = -3, count 11 = 0, count 12 = 0, count 13 = 1, count 14 = 0, count 15 = 0, "
            + "count 16 = 0");
        is("count: -4", "row -1 = -4, count 11 = 0, count 12 = 0, count 13 = 0, count 14 = 1, count 15 = 0, "
            + "count 16 = 0");
        is("count: -5, which there is none of", "at 25, mean 2, back, row -1, row 100, count 15 = 0");
        is("count: -6", "row 100 = -6, count 11 = 0, count 12 = 0, count 13 = 0, count 14 = 0, count 15 = 0, "
            + "count 16 = 1");
        is("count: -1 of mended and swells", "mended 0 0, swells 0 0 2 0, count 11 = 2");
        is("count: a refused one tells one alone", "keep 25 0 2 ! -1, work 6 -1 25 ! -2, best 6 -1 61 2 ! -2, "
            + "swells 0 8 1 2 ! 4000000000000000001");
        is("count: more than a few", "300x back, count 13 = 300, 100x at 25, count 11 = 100, count 13 = 300");
        is("count: an answer -9 is no refusal", "at 0 = -9, falls -1 = -9, keep 24 9 0 = -9, dredge 9 = -9, "
            + "round 0 = -9, "
            + "assessed 1 = -9, weakest 0 = -9, weakest 2 = -9, judge = -9, " + NO_REFUSALS);
    }

    /** 42: the most of each */
    private static void countAtMost() {
        is("count: eight works", "tell " + Script.EIGHT + ", count 0 = 8, count 4 = 255");
        is("count: hour 999", Script.HOUR_999 + "count 1 = 999, count 5 = " + ((31 << 20) + (31 << 15)));
        is("count: purse and owed 9999", Script.RICH + "count 2 = 9999, count 3 = 9999");
        is("count: 96 letters", "letters " + "p;".repeat(48) + " = 96, feed 112 ! -6, count 6 = 96");
        is("count: twelve in the row", "rows 0 0 0 0 0 0 0 0 0 0 0 0 = 12, row 0 ! -6, count 7 = 12");
        is("count: eight to take back", "7x pays, count 8 = 7, pays, count 8 = 8, pays, count 8 = 8");
    }
}
