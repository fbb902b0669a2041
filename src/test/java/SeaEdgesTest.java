/** Each boundary case of what is asked of the sea, by itself: promises 12 to 28. */
public final class SeaEdgesTest {
    private static final int ALL = 33554431;
    private static final int ROW_4 = 31 << 20;
    private static final int ROWS_1_TO_4 = ALL - 31;
    private static final String BAR = "tell w0020;w0021;w0022;w0023;w0024;, ";
    /** Cell 0 is behind castles, the one in it is the last to fall: behind 61 hours. */
    private static final String LAST_AT_61 = "tell h05;w3900;w3901;w3905;x02;, ";

    public static void main(String[] args) {
        level();
        levelByTheClock();
        wet();
        wetBesideAndBehind();
        then();
        thenAtMost();
        floods();
        dry();
        driest();
        falls();
        fallsFirst();
        keepRefused();
        keep();
        keepByHours();
        bestRefused();
        best();
        dredge();
        round();
        roundOfEight();
        assessed();
        assessedBehind();
        whatWas();
        whatWasByTheRow();
        howHigh();
        two();
        twoAnswers();
        swellsRefused();
        swells();
        shares();
        Check.ends();
    }

    private static void is(String name, String steps) {
        Script.is(name, steps);
    }

    /** 12 */
    private static void level() {
        is("level: now", "hours 2, level 0 = 1");
        is("level: in 60 hours", "hours 4, level 60 = 3");
        is("level: below", "level -1 ! -4");
        is("level: far below", "level LEAST ! -4");
        is("level: above", "level 61 ! -6");
        is("level: far above", "level MOST ! -6");
        is("level: at hour 999", Script.HOUR_999 + "level 0 = 2");
        is("level: at hour 1002", Script.HOUR_999 + "level 3 = 5");
        is("level: at hour 1059", Script.HOUR_999 + "level 60 = 2");
        is("level: asked, the hour stays", "level 60, count 1 = 0");
    }

    /** 12: 0 at least, 5 at most, and round again behind 12 */
    private static void levelByTheClock() {
        int[] due = {0, 0, 1, 2, 3, 4, 5, 4, 3, 2, 1, 0};
        for (int hour = 0; hour <= 60; hour++) {
            is("level: in " + hour + " hours", "level " + hour + " = " + due[hour % 12]);
        }
    }

    /** 13 */
    private static void wet() {
        is("wet: now", "hours 6, wet 0 = " + ALL);
        is("wet: nothing", "wet 0 = 0, wet 1 = 0, wet 11 = 0, wet 12 = 0, wet 13 = 0");
        is("wet: the lowest row alone", "wet 2 = " + ROW_4 + ", wet 10 = " + ROW_4);
        is("wet: all but the topmost row", "wet 5 = " + ROWS_1_TO_4 + ", wet 7 = " + ROWS_1_TO_4);
        is("wet: all", "wet 6 = " + ALL);
        is("wet: in 60 hours", "hours 6, wet 60 = " + ALL);
        is("wet: below", "wet -1 ! -4");
        is("wet: far below", "wet LEAST ! -4");
        is("wet: above", "wet 61 ! -6");
        is("wet: far above", "wet MOST ! -6");
        is("wet: beyond hour 999", Script.HOUR_999 + "wet 3 = " + ALL + ", wet 60 = " + (ROW_4 + (31 << 15)));
        is("wet: asked, all stays", "work 0 0 22, wet 60, count 1 = 0, count 4 = 1, workOf 0 3 = 0");
        for (int kind = 0; kind < 6; kind++) {
            int stopped = kind == 2 ? 0 : 1 << 22;
            is("wet: with kind " + kind, "work " + kind + " 9 22, wet 2 = " + (ROW_4 - stopped));
        }
    }

    /** 13: what hangs together, and works that fall */
    private static void wetBesideAndBehind() {
        is("wet: a bar of five stops it", BAR + "wet 6 = 0, wet 60 = 0");
        is("wet: it comes by the one cell without", "tell w0020;w0021;w0022;w0023;, wet 2 = " + (1 << 24)
            + ", wet 3 = " + ((3 << 23) + (31 << 15)));
        is("wet: with a moat in the bar", "tell w0020;w0021;w2922;w0023;w0024;, wet 2 = " + (1 << 22));
        is("wet: cell 9 is not beside 10", "tell h05;w0008;w0014;, wet 0 = "
            + (ROWS_1_TO_4 - (1 << 8) - (1 << 9) - (1 << 14)));
        is("wet: cell 10 is not beside 9", "tell h05;w0005;w0011;w0015;, wet 0 = "
            + (ROWS_1_TO_4 - (1 << 5) - (1 << 10) - (1 << 11) - (1 << 15)));
        is("wet: cell 0 is under neither", "tell h06;w0001;w0005;, wet 0 = " + (ALL - 1 - 2 - 32));
        is("wet: one razed stops nothing", "tell w3922;r0;, wet 2 = " + ROW_4);
        is("wet: one that has fallen stops nothing", "work 0 0 22, wet 2 = " + (ROW_4 - (1 << 22)) + ", wet 3 = "
            + (ROW_4 + (31 << 15)));
        is("wet: one worn more than it holds stops it now", "tell h02;w0022;x09;, wet 0 = " + (ROW_4 - (1 << 22)));
        is("wet: one worn more than it holds stops nothing behind an hour", "tell h02;w0022;x09;, wet 1 = "
            + (ROW_4 + (31 << 15)));
        is("wet: eight works", "tell h06;" + Script.EIGHT + ", wet 0 = " + (ALL - 255));
    }

    /** 14 */
    private static void then() {
        is("then: standing now", "tell w0000;w0001;r0;, then 0 0 = 2");
        is("then: purse now", "tell w4000;h01;, then 0 1 = 7");
        is("then: owed now", "tell w4000;h01;, then 0 2 = 20");
        is("then: in 60 hours", "work 4 0 0, then 60 0 = 0, then 60 1 = 49, then 60 2 = 140");
        is("then: no works", "then 60 0 = 0, then 60 1 = 0, then 60 2 = 0");
        is("then: n below", "then -1 0 ! -4");
        is("then: n far below", "then LEAST 0 ! -4");
        is("then: n above", "then 61 0 ! -6");
        is("then: n far above", "then MOST 0 ! -6");
        is("then: what below", "then 0 -1 ! -2");
        is("then: what above", "then 0 3 ! -2");
        is("then: what far off", "then 0 LEAST ! -2, then 0 MOST ! -2");
        is("then: n below ahead of what", "then -1 3 ! -4");
        is("then: n above ahead of what", "then 61 -1 ! -6");
        is("then: asked, all stays", "work 4 0 0, then 60 0, count 1 = 0, count 2 = 0, count 3 = 0, count 4 = 1");
        is("then: nothing to take back by it", "then 60 0, count 8 = 0");
    }

    /** 14: what is the greatest */
    private static void thenAtMost() {
        is("then: standing eight", "tell " + Script.EIGHT + ", then 0 0 = 255");
        is("then: owed 9776", Script.DUCHIES + "then 13 2 = 9776");
        is("then: owed 9999 at most", Script.DUCHIES + "then 14 2 = 9999, then 15 2 = 9999");
        String later = Script.DUCHIES + "hours 12, " + Script.TIDE.repeat(3) + "fixes 0, fixes 1, ";
        is("then: purse 9936", later + "then 6 1 = 9936");
        is("then: purse 9999 at most", later + "then 7 1 = 9999, then 8 1 = 9999");
        is("then: beyond hour 999", Script.HOUR_999 + "work 4 0 0, then 3 0 = 1, then 4 0 = 0, then 60 1 = 28");
        is("then: to hour 999", Script.HOUR_960 + "work 4 0 0, then 39 1 = 49");
    }

    /** 15 */
    private static void floods() {
        is("floods: the first cell", "floods 0 = 6");
        is("floods: the last cell", "floods 24 = 2");
        is("floods: below", "floods -1 ! -1");
        is("floods: above", "floods 25 ! -1");
        is("floods: far off", "floods LEAST ! -1, floods MOST ! -1");
        is("floods: it is wet now", "hours 2, floods 24 = 0");
        is("floods: it was wet an hour ago", "hours 10, floods 24 = 0, hours 1, floods 24 = 3");
        is("floods: at the latest without works", "hours 7, floods 0 = 11");
        is("floods: behind 60 hours", LAST_AT_61 + "hours 1, floods 0 = 60");
        is("floods: behind 61 hours", LAST_AT_61 + "floods 0 = -9");
        is("floods: never", BAR + "floods 0 = -9, floods 20 = -9, floods 24 = -9");
        is("floods: a cell by the wall in it", "work 0 0 22, floods 22 = 3");
        is("floods: a cell with a moat", "work 2 0 22, floods 22 = 2");
        is("floods: beyond hour 999", Script.HOUR_999 + "floods 0 = 3");
    }

    /** 16 */
    private static void dry() {
        is("dry: the first cell", "dry 0 = 55");
        is("dry: the last cell", "dry 24 = 15");
        is("dry: below", "dry -1 ! -1");
        is("dry: above", "dry 25 ! -1");
        is("dry: far off", "dry LEAST ! -1, dry MOST ! -1");
        is("dry: all 60", BAR + "dry 0 = 60, dry 24 = 60");
        is("dry: now does not count", LAST_AT_61 + "dry 0 = 60");
        is("dry: the 60th does", LAST_AT_61 + "hours 1, dry 0 = 59");
        is("dry: beyond hour 999", Script.HOUR_999 + "dry 0 = 55, dry 24 = 15");
        is("dry: a cell by the wall in it", "work 0 0 22, dry 22 = 16");
        is("dry: a cell with a moat", "work 2 0 22, dry 22 = 15");
    }

    /** 17 */
    private static void driest() {
        is("driest: several, the least", "driest 0 = 0");
        is("driest: how often", "driest 1 = 55");
        is("driest: what below", "driest -1 ! -2");
        is("driest: what above", "driest 2 ! -2");
        is("driest: what far off", "driest LEAST ! -2, driest MOST ! -2");
        is("driest: all cells, 60 hours each", BAR + "driest 0 = 0, driest 1 = 60");
        is("driest: the greatest of row 0", "work 3 9 4, driest 0 = 4, driest 1 = 58");
        is("driest: the first of two", "tell w3904;w3902;, driest 0 = 2, driest 1 = 58");
        is("driest: beyond hour 999", Script.HOUR_999 + "driest 0 = 0, driest 1 = 55");
    }

    /** 18: of a work */
    private static void falls() {
        is("falls: none there", "falls 0 ! -1");
        is("falls: below -1", "work 0 0 0, falls -2 ! -1");
        is("falls: the next one", "work 0 0 0, falls 1 ! -1");
        is("falls: far off", "work 0 0 0, falls LEAST ! -1, falls MOST ! -1");
        is("falls: the last of eight", "tell w0000;w0001;w0002;w0003;w0004;w0005;w0006;w0022;, falls 7 = 3");
        is("falls: a ninth", "tell " + Script.EIGHT + ", falls 8 ! -1");
        is("falls: it is gone now", "work 0 0 0, razes 0, falls 0 = 0");
        is("falls: gone by hours", "work 0 0 22, hours 3, falls 0 = 0");
        is("falls: behind 1", "tell w0000;x09;, falls 0 = 1");
        is("falls: worn as much as it holds", "tell w0000;x01;, falls 0 = 5");
        is("falls: behind 60", LAST_AT_61 + "hours 1, falls 0 = 60");
        is("falls: behind 61", LAST_AT_61 + "falls 0 = -9");
        is("falls: never", BAR + "falls 0 = -9, falls 4 = -9");
        is("falls: beyond hour 999", Script.HOUR_999 + "work 4 0 0, falls 0 = 4");
        is("falls: asked, it stands", "work 0 0 22, falls 0 = 3, count 4 = 1, count 1 = 0");
    }

    /** 18: the first */
    private static void fallsFirst() {
        is("falls: first of no works", "falls -1 = -9");
        is("falls: first where none stands", "tell w0022;r0;, falls -1 = -9");
        is("falls: first of one", "work 0 0 22, falls -1 = 0");
        is("falls: first of several at once", "tell w0920;w0022;w0023;, falls -1 = 1");
        is("falls: first of two, the latter", "tell w0920;w0022;, falls -1 = 1");
        is("falls: one gone now is not the first", "tell w0022;r0;w0920;, falls -1 = 1");
        is("falls: first, none in 60 hours", BAR + "falls -1 = -9");
        is("falls: first of eight", "tell w0000;w0001;w0002;w0003;w0004;w0005;w0006;w0022;, falls -1 = 7");
    }

    /** 19: refused */
    private static void keepRefused() {
        is("keep: cell below", "keep -1 1 0 ! -1");
        is("keep: cell above", "keep 25 1 0 ! -1");
        is("keep: cell far off", "keep LEAST 1 0 ! -1, keep MOST 1 0 ! -1");
        is("keep: n below", "keep 0 0 0 ! -4");
        is("keep: n far below", "keep 0 -1 0 ! -4, keep 0 LEAST 0 ! -4");
        is("keep: n above", "keep 0 25 0 ! -6");
        is("keep: n far above", "keep 0 MOST 0 ! -6");
        is("keep: what below", "keep 0 1 -1 ! -2");
        is("keep: what above", "keep 0 1 2 ! -2");
        is("keep: what far off", "keep 0 1 LEAST ! -2, keep 0 1 MOST ! -2");
        is("keep: the cell ahead of n below", "keep 25 0 0 ! -1");
        is("keep: the cell ahead of n above", "keep -1 25 0 ! -1");
        is("keep: the cell ahead of what", "keep 25 1 2 ! -1");
        is("keep: n below ahead of what", "keep 0 0 2 ! -4");
        is("keep: n above ahead of what", "keep 0 25 -1 ! -6");
    }

    /** 19: how many, and the first */
    private static void keep() {
        is("keep: none needed", "keep 20 1 0 = 0");
        is("keep: the first of none", "keep 20 1 1 = -9");
        is("keep: one, in the cell itself", "keep 20 2 0 = 1, keep 20 2 1 = 20");
        is("keep: one is enough for 5 hours", "keep 24 5 0 = 1, keep 24 5 1 = 24");
        is("keep: two, the first is the lesser", "keep 24 6 0 = 2, keep 24 6 1 = 23");
        is("keep: two do not do", "keep 24 7 0 = -9, keep 24 7 1 = -9");
        is("keep: the first cell", "keep 0 17 0 = 1, keep 0 17 1 = 0, keep 0 18 0 = 2");
        is("keep: the greatest n", "keep 0 24 0 = 2, keep 0 24 1 = 0");
        is("keep: the greatest n, none needed", BAR + "keep 0 24 0 = 0, keep 0 24 1 = -9");
        is("keep: eight works, and two more in mind", "tell w3910;w2015;w0000;w0001;w0002;w0003;w0004;w0005;, "
            + "keep 15 5 0 = 2, keep 15 5 1 = 16, count 0 = 8");
        is("keep: not where one stands", "work 2 0 20, keep 20 2 0 = -9, keep 20 2 1 = -9");
        is("keep: where one is gone", "tell w2020;r0;, keep 20 2 0 = 1, keep 20 2 1 = 20");
        is("keep: asked, nothing is built", "keep 24 6 0 = 2, count 0 = 0, at 23 = -9, count 1 = 0");
    }

    /** 19: behind any of 0 to n hours */
    private static void keepByHours() {
        is("keep: wet now alone", "hours 10, keep 20 1 0 = 1, keep 20 1 1 = 20");
        is("keep: wet an hour ago alone", "hours 11, keep 20 1 0 = 0");
        is("keep: wet behind n alone", "hours 1, keep 20 1 0 = 1, keep 20 1 1 = 20");
        is("keep: wet behind n and 1 alone", "keep 20 1 0 = 0");
        is("keep: for 23 hours none", "tell h05;w3905;x01;, keep 5 23 0 = 0, keep 5 23 1 = -9");
        is("keep: for 24 hours one", "tell h05;w3905;x01;, keep 5 24 0 = 1, keep 5 24 1 = 10");
        is("keep: beyond hour 999", Script.HOUR_999 + "keep 0 2 0 = 0, keep 0 3 0 = 1, keep 0 3 1 = 0");
    }

    /** 20: refused */
    private static void bestRefused() {
        is("best: kind below", "best -1 0 0 0 ! -2");
        is("best: kind above", "best 6 0 0 0 ! -2");
        is("best: kind far off", "best LEAST 0 0 0 ! -2, best MOST 0 0 0 ! -2");
        is("best: what below", "best 0 0 0 -1 ! -2");
        is("best: what above", "best 0 0 0 2 ! -2");
        is("best: what far off", "best 0 0 0 LEAST ! -2, best 0 0 0 MOST ! -2");
        is("best: figure below", "best 0 -1 0 0 ! -4, best 0 LEAST 0 0 ! -4");
        is("best: figure above", "best 0 10 0 0 ! -6, best 0 MOST 0 0 ! -6");
        is("best: n below", "best 0 0 -1 0 ! -4, best 0 0 LEAST 0 ! -4");
        is("best: n above", "best 0 0 61 0 ! -6, best 0 0 MOST 0 ! -6");
        is("best: eight there are", "tell " + Script.EIGHT + ", best 0 0 0 0 ! -6");
        is("best: eight there are, all gone", "tell " + Script.EIGHT + "h60;, count 4 = 0, best 0 0 0 0 ! -6");
        is("best: kind ahead of figure below", "best 6 -1 0 0 ! -2");
        is("best: kind ahead of n above", "best 6 0 61 0 ! -2");
        is("best: what ahead of figure below", "best 0 -1 0 2 ! -2");
        is("best: what ahead of n above", "best 0 0 61 2 ! -2");
        is("best: what ahead of room", "tell " + Script.EIGHT + ", best 0 0 0 2 ! -2");
        is("best: n below ahead of figure above", "best 0 10 -1 0 ! -4");
        is("best: figure below ahead of n above", "best 0 -1 61 0 ! -4");
        is("best: figure below ahead of room", "tell " + Script.EIGHT + ", best 0 -1 0 0 ! -4");
        is("best: n below ahead of room", "tell " + Script.EIGHT + ", best 0 0 -1 0 ! -4");
    }

    /** 20: the cell, and purse */
    private static void best() {
        is("best: behind no hours", "best 4 0 0 0 = 0, best 4 0 0 1 = 0");
        is("best: behind no hours, with a purse", "tell w4012;h01;, best 4 0 0 0 = 0, best 4 0 0 1 = 7");
        is("best: behind 60", "best 4 0 60 0 = 0, best 4 0 60 1 = 49");
        is("best: the greatest kind and figure", "best 5 9 60 0 = 0, best 5 9 60 1 = 943");
        is("best: the least kind and figure", "best 0 0 60 0 = 0, best 0 0 60 1 = 0");
        is("best: not where one stands", "work 0 0 0, best 4 0 0 0 = 1");
        is("best: where one is gone", "tell w0000;r0;, best 4 0 0 0 = 0");
        is("best: eighth", "tell w0000;w0001;w0002;w0003;w0004;w0005;w0006;, best 4 0 1 0 = 7, best 4 0 1 1 = 7");
        is("best: asked, nothing is built", "best 4 0 60 0, count 0 = 0, count 1 = 0, count 2 = 0");
        is("best: beyond hour 999", Script.HOUR_999 + "best 4 0 60 0 = 0, best 4 0 60 1 = 28");
        String tide = "fixes 0, fixes 1, fixes 2, fixes 3, fixes 4, fixes 5, fixes 6, hours 12, ";
        is("best: purse 9999 at most", "tell w5900;w5901;w5902;w5903;w5904;w5905;w5906;, hours 12, " + tide.repeat(5)
            + "count 2 = 9999, best 5 9 60 0 = 7, best 5 9 60 1 = 9999");
    }

    /** 21 */
    private static void dredge() {
        is("dredge: no works", "dredge 0 = -9, dredge 60 = -9");
        is("dredge: below", "dredge -1 ! -4");
        is("dredge: far below", "dredge LEAST ! -4");
        is("dredge: above", "dredge 61 ! -6");
        is("dredge: far above", "dredge MOST ! -6");
        is("dredge: behind no hours", "work 0 9 0, dredge 0 = -9");
        is("dredge: behind 60", "work 0 9 0, dredge 60 = 0");
        is("dredge: one that gives as much as it takes", "work 0 0 0, dredge 60 = -9");
        is("dredge: several, the least", "tell w0900;w0901;, dredge 1 = 0");
        is("dredge: the middle one of three", "tell w0100;w0901;w0202;, dredge 1 = 1");
        is("dredge: the last of three, each better", "tell w0100;w0201;w0902;, dredge 1 = 2");
        is("dredge: the last of eight", "tell w0000;w0001;w0002;w0003;w0004;w0005;w0006;w0907;, dredge 1 = 7");
        is("dredge: all gone", "tell w0900;r0;, dredge 60 = -9");
        is("dredge: one gone is not it", "tell w0900;r0;w0101;, dredge 1 = 1");
        is("dredge: purse and owed at most", Script.RICH + "dredge 12 = -9");
        is("dredge: asked, all stays", "work 0 9 0, dredge 60 = 0, count 4 = 1, count 1 = 0, count 3 = 0");
        is("dredge: beyond hour 999", Script.HOUR_999 + "work 0 9 0, dredge 60 = 0");
    }

    /** 22 */
    private static void round() {
        is("round: steps over no works", "round -1 = 0");
        is("round: no first cell of no works", "round 0 = -9");
        is("round: below", "round -2 ! -4");
        is("round: far below", "round LEAST ! -4");
        is("round: far above", "round MOST = -9");
        is("round: one in cell 0", "work 0 0 0, round -1 = 0, round 0 = 0, round 1 = -9");
        is("round: one in cell 24", "work 0 0 24, round -1 = 8, round 0 = 24, round 1 = -9");
        is("round: several ways, the first by numbers", "tell w0001;w0005;, round -1 = 3, round 0 = 1, round 1 = 5");
        is("round: not the first by cells", "tell w0005;w0001;, round -1 = 3, round 0 = 5, round 1 = 1");
        is("round: one gone is not in it", "tell w0024;w0001;r0;, round -1 = 1, round 0 = 1, round 1 = -9");
        is("round: all gone", "tell w0024;r0;, round -1 = 0, round 0 = -9");
        is("round: two gone and one in the same cell", "tell w0012;r0;w0012;r1;w0012;, round -1 = 4, round 0 = 12, "
            + "round 1 = -9");
    }

    /** 22: eight */
    private static void roundOfEight() {
        String eight = "tell w0024;w0020;w0004;w0000;w0012;w0002;w0010;w0014;, ";
        is("round: over eight", "tell " + Script.EIGHT + ", round -1 = 8, round 0 = 0, round 1 = 1, round 2 = 5");
        is("round: the last of eight", "tell " + Script.EIGHT + ", round 7 = 4");
        is("round: a ninth of eight", "tell " + Script.EIGHT + ", round 8 = -9");
        is("round: eight apart", eight + "round -1 = 16, round 0 = 0");
    }

    /** 23 */
    private static void assessed() {
        is("assessed: no works", "assessed 0 = 0");
        is("assessed: dearest of none", "assessed 1 = -9");
        is("assessed: no arrears", "assessed 2 = 0");
        is("assessed: none behind", "assessed 3 = 0");
        is("assessed: what below", "assessed -1 ! -2");
        is("assessed: what above", "assessed 4 ! -2");
        is("assessed: what far off", "assessed LEAST ! -2, assessed MOST ! -2");
        is("assessed: all gone", "tell w5900;r0;, assessed 0 = 0, assessed 1 = -9, assessed 3 = 0");
        is("assessed: the least rate", "work 0 0 0, assessed 0 = 0, assessed 1 = 0");
        is("assessed: the greatest rates", Script.DUCHIES + "assessed 0 = 752, assessed 1 = 0");
        is("assessed: one gone is not in it", "tell w5900;w0901;r0;, assessed 0 = 9, assessed 1 = 1");
        is("assessed: dearest of several, the least", "tell w0000;w4001;w3002;, assessed 1 = 1");
        is("assessed: dearest is the last", "tell w0000;w0001;w0002;w0003;w0004;w0005;w0006;w0107;, assessed 1 = 7");
        is("assessed: arrears", "work 4 0 0, hours 1, assessed 2 = 13");
        is("assessed: arrears, paid", "work 4 0 0, hours 1, pays, assessed 2 = 0");
        is("assessed: arrears 0 at least", "tell w0000;w4001;, hours 1, pays, razes 1, hours 1, assessed 2 = 0");
        is("assessed: arrears of 9999 and 9999", Script.RICH + "assessed 2 = 0");
        is("assessed: the greatest arrears", Script.DUCHIES + "hours 14 = 2576, assessed 2 = 7423");
    }

    /** 23: behind, with level 5 */
    private static void assessedBehind() {
        is("behind: all eight", "tell " + Script.EIGHT + ", assessed 3 = 255");
        is("behind: a moat is wet", "work 2 0 0, assessed 3 = 0");
        is("behind: a moat behind two walls", "tell w2000;w0001;w0005;, assessed 3 = 7");
        is("behind: a moat behind one of two, one gone", "tell w2000;w0001;w0005;r1;, assessed 3 = 4");
        is("behind: at low water too", "hours 11, work 2 0 0, assessed 3 = 0");
        is("behind: works as they are now", "tell w0022;x09;, assessed 3 = 1");
    }

    /** 24 */
    private static void whatWas() {
        is("whatWas: none there", "whatWas 0 0 ! -1");
        is("whatWas: below the first", "work 0 0 0, whatWas -1 0 ! -1");
        is("whatWas: the next one", "work 0 0 0, whatWas 1 0 ! -1");
        is("whatWas: far off", "work 0 0 0, whatWas LEAST 0 ! -1, whatWas MOST 0 ! -1");
        is("whatWas: the last of eight", "tell " + Script.EIGHT + ", rows 0, whatWas 7 0 = 63");
        is("whatWas: a ninth", "tell " + Script.EIGHT + ", whatWas 8 0 ! -1");
        is("whatWas: what below", "work 0 0 0, whatWas 0 -1 ! -2");
        is("whatWas: what above", "work 0 0 0, whatWas 0 2 ! -2");
        is("whatWas: what far off", "work 0 0 0, whatWas 0 LEAST ! -2, whatWas 0 MOST ! -2");
        is("whatWas: the work ahead of what", "whatWas 0 2 ! -1");
        is("whatWas: an empty row, kinds", "work 0 0 22, whatWas 0 0 = 63");
        is("whatWas: an empty row, figures", "work 0 0 22, whatWas 0 1 = 1023");
        is("whatWas: the row stays", "work 0 0 22, rows 0 0 1, whatWas 0 0, whatWas 0 1, count 7 = 3");
        is("whatWas: asked, the work stays", "work 4 3 22, rows 0 0 1, whatWas 0 0, whatWas 0 1, workOf 0 0 = 4, "
            + "workOf 0 1 = 3, workOf 0 3 = 0, count 1 = 0");
    }

    /** 24: by the row */
    private static void whatWasByTheRow() {
        is("whatWas: one number, right", "work 0 0 22, rows 0, whatWas 0 0 = 63, whatWas 0 1 = 1023");
        is("whatWas: one number, wrong", "work 0 0 22, rows 1, whatWas 0 0 = 0, whatWas 0 1 = 0");
        is("whatWas: the last number wrong", "work 0 0 22, rows 0 0 2, whatWas 0 0 = 0, whatWas 0 1 = 0");
        is("whatWas: the least kind", "work 0 0 22, rows 0 0 1 2 2, whatWas 0 0 = 1");
        is("whatWas: the greatest kind", "work 0 0 22, rows 0 0 1 2 3 4 4, whatWas 0 0 = 32");
        is("whatWas: the least figures", "work 0 0 22, rows 0 0 1 2 2, whatWas 0 1 = 7");
        is("whatWas: the greatest figure", "work 0 0 22, rows 0 0 1 2 3 4 5 5, whatWas 0 1 = 512");
        is("whatWas: a full row", "work 0 0 22, rows 0 0 1 2 3 4 5 5 5 5 5 5 = 12, whatWas 0 1 = 512");
        is("whatWas: a full row, its last number wrong", "work 0 0 22, rows 0 0 1 2 3 4 5 5 5 5 5 6 = 12, "
            + "whatWas 0 1 = 0");
        is("whatWas: one gone, worn no more", "tell w0022;x02;r0;, rows 2 2 2, whatWas 0 0 = 63, whatWas 0 1 = 1023");
        is("whatWas: one gone, by another number", "tell w0022;x02;r0;, rows 2 2 3, whatWas 0 0 = 0");
        is("whatWas: beyond hour 999", Script.HOUR_999 + "work 0 9 0, rows 0 0 1 2 3 3, whatWas 0 1 = 1016");
    }

    /** 25 */
    private static void howHigh() {
        is("howHigh: an empty row", "howHigh = 4095");
        is("howHigh: one number, wrong at all hours", "rows 1, howHigh = 0");
        is("howHigh: the greatest number", "rows 99, howHigh = 0");
        is("howHigh: nothing wet", "rows 0, howHigh = 2051");
        is("howHigh: all wet", "rows 25, howHigh = 64");
        is("howHigh: hour 0 alone", "rows 0 0 5 10 15 20 25 20 15 10 5 0 = 12, howHigh = 1");
        is("howHigh: hour 11 alone", "rows 0 0 0 5 10 15 20 25 20 15 10 5 = 12, howHigh = 2048");
        is("howHigh: a full row, its last number wrong", "rows 0 0 5 10 15 20 25 20 15 10 5 1 = 12, howHigh = 0");
        is("howHigh: whatever the hour is", "hours 7, rows 0 0 5, howHigh = 1");
        is("howHigh: the row stays", "rows 0 0, howHigh, count 7 = 2");
        is("howHigh: asked, the hour stays", "hours 3, rows 0 0, howHigh, count 1 = 3");
        is("howHigh: by works that fall", "tell w0020;w0021;w0022;w0023;, rows 1 6 15, howHigh = 4");
        is("howHigh: by a bar", BAR + "rows 0 0 0, howHigh = 4095");
        is("howHigh: for each hour works as they are now", "tell w0020;x01;w0021;x11;w0022;x21;w0023;x31;, rows 1, "
            + "howHigh = 1028");
    }

    /** 26: refused */
    private static void two() {
        is("two: no works", "two 0 1 ! -1");
        is("two: one twice", "work 0 0 0, two 0 0 ! -1");
        is("two: the first below", "work 0 0 0, two -1 0 ! -1, two LEAST 0 ! -1");
        is("two: the first is none", "work 0 0 0, two 1 0 ! -1, two MOST 0 ! -1");
        is("two: the second below", "work 0 0 0, two 0 -1 ! -1, two 0 LEAST ! -1");
        is("two: the second is none", "work 0 0 0, two 0 1 ! -1, two 0 MOST ! -1");
        is("two: a ninth", "tell " + Script.EIGHT + ", two 8 0 ! -1, two 0 8 ! -1");
        is("two: the last of eight", "tell " + Script.EIGHT + ", two 7 0 = 0, two 0 7 = 0");
        is("two: the first is gone", "tell w0000;w0001;r0;, two 0 1 ! -3");
        is("two: the second is gone", "tell w0000;w0001;r0;, two 1 0 ! -3");
        is("two: both are gone", "tell w0000;w0001;r0;r1;, two 0 1 ! -3");
        is("two: one gone, twice", "tell w0000;r0;, two 0 0 ! -1");
        is("two: one gone and none", "tell w0000;r0;, two 0 1 ! -1, two -1 0 ! -1");
    }

    /** 26: answered */
    private static void twoAnswers() {
        is("two: neither has anything by it", "tell w0000;w0001;, two 0 1 = 0");
        is("two: the second has", "tell w0000;w0101;, two 0 1 = 1, two 1 0 = 0");
        is("two: the first pays never gladly", "tell w4000;w4001;, two 0 1 = 1, two 1 0 = 1");
        is("two: the second is wet all the time", "tell h02;w4000;w2922;, two 0 1 = 0");
        is("two: the second is dry in the last hour alone", "tell h05;w4000;w2922;, two 0 1 = 1");
        is("two: the second is dry in a seventh hour alone", "tell h04;w4000;w2922;, two 0 1 = 0");
        is("two: owed 9999 all the same", Script.RICH + "two 0 1 = 0");
        is("two: asked, all stays", "tell w4000;w4001;, two 0 1 = 1, count 1 = 0, count 2 = 0, count 3 = 0");
    }

    /** 27: refused */
    private static void swellsRefused() {
        String one = "work 0 0 0, ";
        is("swells: no works", "swells 0 0 2 0 ! 4000000000000000001");
        is("swells: work below", one + "swells -1 0 2 0 ! 4000000000000000001");
        is("swells: the next work", one + "swells 1 0 2 0 ! 4000000000000000001");
        is("swells: work far off", one + "swells LEAST 0 2 0 ! 4000000000000000001, "
            + "swells MOST 0 2 0 ! 4000000000000000001");
        is("swells: a ninth", "tell " + Script.EIGHT + ", swells 8 0 2 0 ! 4000000000000000001, swells 7 0 2 0 = 1");
        is("swells: n below", one + "swells 0 -1 2 0 ! 4000000000000000004, "
            + "swells 0 LEAST 2 0 ! 4000000000000000004");
        is("swells: n above", one + "swells 0 8 2 0 ! 4000000000000000006, swells 0 MOST 2 0 ! 4000000000000000006");
        is("swells: t below", one + "swells 0 0 1 0 ! 4000000000000000004, swells 0 0 0 0 ! 4000000000000000004");
        is("swells: t far below", one + "swells 0 0 LEAST 0 ! 4000000000000000004");
        is("swells: t above", one + "swells 0 0 21 0 ! 4000000000000000006, swells 0 0 MOST 0 ! 4000000000000000006");
        is("swells: part below", one + "swells 0 0 2 -1 ! 4000000000000000002, "
            + "swells 0 0 2 LEAST ! 4000000000000000002");
        is("swells: part above", one + "swells 0 0 2 2 ! 4000000000000000002, "
            + "swells 0 0 2 MOST ! 4000000000000000002");
        is("swells: the work ahead of n below", "swells 0 -1 2 0 ! 4000000000000000001");
        is("swells: the work ahead of t above", "swells 0 0 21 0 ! 4000000000000000001");
        is("swells: the work ahead of part", "swells 0 0 2 2 ! 4000000000000000001");
        is("swells: n below ahead of t above", one + "swells 0 -1 21 0 ! 4000000000000000004");
        is("swells: t below ahead of n above", one + "swells 0 8 1 0 ! 4000000000000000004");
        is("swells: n below ahead of part", one + "swells 0 -1 2 2 ! 4000000000000000004");
        is("swells: t below ahead of part", one + "swells 0 0 1 2 ! 4000000000000000004");
        is("swells: n above ahead of part", one + "swells 0 8 2 2 ! 4000000000000000006");
        is("swells: t above ahead of part", one + "swells 0 0 21 -1 ! 4000000000000000006");
    }

    private static void likely(String name, String state, String call, int above, int below) {
        is("swells: " + name, state + ", " + call + " 0 = " + above + ", " + call + " 1 = " + below);
    }

    /** 27: how likely */
    private static void swells() {
        likely("behind no hours", "work 0 0 0", "swells 0 0 2", 1, 1);
        likely("behind no hours, worn more than it holds", "tell w0000;x09;", "swells 0 0 2", 1, 1);
        likely("gone, behind no hours", "tell w0000;r0;", "swells 0 0 2", 0, 1);
        likely("gone", "tell w0000;r0;", "swells 0 7 20", 0, 1);
        likely("surely falls", "tell h05;w0000;x01;", "swells 0 1 2", 0, 1);
        likely("surely stands", "tell w0000;", "swells 0 1 2", 1, 1);
        likely("1 in 2", "tell w0022;x01;", "swells 0 1 2", 1, 2);
        likely("1 in 20", "tell w0022;x01;", "swells 0 1 20", 19, 20);
        likely("seven hours, in lowest terms", "tell w1300;", "swells 0 7 20", 19, 20);
        likely("seven hours", "tell w1300;", "swells 0 7 2", 1, 2);
        likely("level 5 at most", "tell h05;w0000;", "swells 0 1 2", 1, 1);
        likely("level 5 at most, beside a bar", "tell h05;w0020;w0021;w0022;w0023;w0024;", "swells 4 1 2", 1, 1);
        likely("beyond hour 999", Script.HOUR_999 + "tell w0000;x01;", "swells 0 1 3", 2, 3);
        is("swells: asked, all stays", "tell w0022;x01;, swells 0 7 2 0, count 1 = 0, count 4 = 1, workOf 0 3 = 1");
    }

    /** 28 */
    private static void shares() {
        is("shares: an empty purse", "shares 1 0 = 0, shares 1 1 = 0, shares 9 0 = 0, shares 9 1 = 0");
        is("shares: over 1", "tell w4000;h01;, shares 1 0 = 7, shares 1 1 = 0");
        is("shares: over 9", "tell w4000;h04;, shares 9 0 = 3, shares 9 1 = 1");
        is("shares: over more than there is", "tell w4000;h01;, shares 9 0 = 0, shares 9 1 = 7");
        is("shares: over as much as there is", "tell w4000;h01;, shares 7 0 = 1, shares 7 1 = 0");
        is("shares: n below", "shares 0 0 ! -4");
        is("shares: n far below", "shares -1 0 ! -4, shares LEAST 0 ! -4");
        is("shares: n above", "shares 10 0 ! -6");
        is("shares: n far above", "shares MOST 0 ! -6");
        is("shares: what below", "shares 1 -1 ! -2");
        is("shares: what above", "shares 1 2 ! -2");
        is("shares: what far off", "shares 1 LEAST ! -2, shares 1 MOST ! -2");
        is("shares: n below ahead of what", "shares 0 2 ! -4");
        is("shares: n above ahead of what", "shares 10 -1 ! -6");
        is("shares: the greatest purse", Script.RICH + "shares 9 0 = 1111, shares 9 1 = 0, shares 7 0 = 1428, "
            + "shares 7 1 = 3");
        is("shares: the purse stays", "tell w4000;h01;, shares 3 0 = 2, count 2 = 7");
    }
}
