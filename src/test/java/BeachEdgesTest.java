/** Each boundary case of the calls that change the beach, by itself: promises 1 to 11. */
public final class BeachEdgesTest {
    public static void main(String[] args) {
        aNewObject();
        feed();
        beachAsLetters();
        beachAsLettersByOne();
        beachAsStatements();
        beachAsStatementsOfWorks();
        beachAsStatementsOfHours();
        beachWithAFault();
        beachWithout();
        workOf();
        workOfFigures();
        at();
        work();
        workInItsOrder();
        razes();
        fixes();
        pays();
        hours();
        hoursAtMost();
        hoursOfWorks();
        hoursBeside();
        back();
        backAtMost();
        backIsLeft();
        Check.ends();
    }

    private static void is(String name, String steps) {
        Script.is(name, steps);
    }

    /** 1 */
    private static void aNewObject() {
        is("new: no works", "count 0 = 0, workOf 0 0 ! -1");
        is("new: hour 0", "count 1 = 0, image = 0");
        is("new: purse 0", "count 2 = 0, shares 1 0 = 0");
        is("new: nothing owed", "count 3 = 0, pays = 0");
        is("new: nothing stands", "count 4 = 0, then 0 0 = 0");
        is("new: nothing is wet", "count 5 = 0, wet 0 = 0");
        is("new: no letters", "count 6 = 0, feed 0 = 1");
        is("new: nothing in the row", "count 7 = 0, row 0 = 1");
        is("new: nothing to take back", "count 8 = 0, back ! -3");
        is("new: no refusals", "count 11 = 0, count 12 = 0, count 13 = 0, count 14 = 0, count 15 = 0, count 16 = 0");
        is("new: no image", "restore ! -3");
    }

    /** 2 */
    private static void feed() {
        is("feed: the least letter", "feed 0 = 1");
        is("feed: the greatest letter", "feed 255 = 1");
        is("feed: below the least", "feed -1 ! -4");
        is("feed: far below", "feed LEAST ! -4");
        is("feed: above the greatest", "feed 256 ! -6");
        is("feed: far above", "feed MOST ! -6");
        is("feed: the 96th", "95x feed 112, feed 59 = 96");
        is("feed: a 97th", "96x feed 112, feed 59 ! -6");
        is("feed: a 97th below the least", "96x feed 112, feed -1 ! -4");
        is("feed: a 97th above the greatest", "96x feed 112, feed 256 ! -6");
        is("feed: one refused is not in the text", "feed 112, feed 256 ! -6, feed -1 ! -4, feed 59 = 2, beach = 1");
        is("feed: one refused by a full text is not in it", "letters " + "p;".repeat(48) + " = 96, feed 112 ! -6, "
            + "feed 256 ! -6, feed -1 ! -4, beach = 48");
        is("feed: from the first again", "tell " + "p;".repeat(48) + " = 48, feed 112 = 1, feed 59 = 2, beach = 1");
    }

    private static void fault(String text, int answer) {
        is("beach of \"" + text + "\"", "tell " + text + " = " + answer + ", count 6 = 0, count 0 = 0, count 1 = 0");
    }

    /** 3: kind 1 */
    private static void beachAsLetters() {
        is("beach: the empty text", "beach = -1000");
        is("beach: empty behind a beach", "tell p; = 1, beach = -1000");
        is("beach: empty behind a fault of kind 1", "tell z = -1000, beach = -1000");
        is("beach: empty behind a fault of kind 2", "tell p;r0; = -2002, beach = -1000");
        is("beach: a full text that ends too soon", "tell " + "p;".repeat(47) + "w0 = -1096");
        is("beach: a full text that lacks a sign", "tell " + "p;".repeat(47) + "pp = -1095");
        is("beach: the least letter", "feed 0, beach = -1000");
        is("beach: the greatest letter", "feed 112, feed 59, feed 255, beach = -1002");
        fault(";", -1000);
        fault("0", -1000);
        fault("P;", -1000);
        fault("p", -1001);
        fault("pp", -1001);
        fault("p1;", -1001);
        fault("p;;", -1002);
        fault("p;p", -1003);
        fault("p;w", -1003);
        fault("p;z", -1002);
        fault("h;", -1001);
        fault("h0;", -1002);
        fault("h001;", -1003);
        fault("w;", -1001);
        fault("w00000;", -1005);
        fault("x0;", -1002);
        fault("x000;", -1003);
        fault("r;", -1001);
        fault("r00;", -1002);
        fault("f;", -1001);
        fault("f00;", -1002);
        fault("r0;z", -1003);
        fault("h00;w60", -1007);
    }

    /** 3: kind 1: every place of every statement lacks, or has the sign under "0" or the one over "9" */
    private static void beachAsLettersByOne() {
        String[] whole = {"w0000;", "r0;", "f0;", "x00;", "p;", "h01;"};
        for (String text : whole) {
            for (int place = 1; place < text.length(); place++) {
                fault(text.substring(0, place), -1000 - place);
                fault("p;" + text.substring(0, place), -1002 - place);
                fault(text.substring(0, place) + "/" + text.substring(place + 1), -1000 - place);
                fault(text.substring(0, place) + ":" + text.substring(place + 1), -1000 - place);
            }
        }
    }

    /** 3: kind 2: numbers out of range */
    private static void beachAsStatements() {
        is("beach: the least kind, figure and cell", "tell w0000; = 1, at 0 = 0");
        is("beach: the greatest kind, figure and cell", "tell w5924; = 1, workOf 0 0 = 5, workOf 0 1 = 9, at 24 = 0");
        fault("w6000;", -2000);
        fault("w9000;", -2000);
        fault("w0025;", -2000);
        fault("w0099;", -2000);
        fault("w0100;r0;w6000;", -2009);
        is("beach: hours 1", "tell h01; = 1, count 1 = 1");
        is("beach: hours 60", "tell h60; = 1, count 1 = 60");
        fault("h00;", -2000);
        fault("h61;", -2000);
        fault("h99;", -2000);
        is("beach: worn 0", "tell w0000;x05;x00; = 3, workOf 0 3 = 0");
        is("beach: worn 9", "tell w0000;x09; = 2, workOf 0 3 = 9, workOf 0 4 = 1");
        is("beach: worn 0 by f", "tell w0000;x09;f0; = 3, workOf 0 3 = 0");
        is("beach: the first fault of two", "tell p;h00;h61; = -2002");
        is("beach: the last statement of a full text", "tell " + "p;".repeat(46) + "h61; = -2092");
        is("beach: kind 1 ahead of kind 2", "tell r0;h00;p = -1008");
    }

    /** 3: kind 2: works that are none, gone, in the way, too many */
    private static void beachAsStatementsOfWorks() {
        fault("r0;", -2000);
        fault("f0;", -2000);
        fault("x00;", -2000);
        is("beach: the next number is none", "tell w0000;r1; = -2006, tell w0000;f1; = -2006, "
            + "tell w0000;x10; = -2006");
        is("beach: the last of eight", "tell " + Script.EIGHT + "r7; = 9, tell r8; = -2000, tell f8; = -2000, "
            + "tell x80; = -2000");
        is("beach: a work that is none, 9", "tell r9; = -2000, tell f9; = -2000, tell x99; = -2000");
        is("beach: one razed is gone", "tell w0000;r0;r0; = -2009, tell w0000;r0;f0; = -2009, "
            + "tell w0000;r0;x00; = -2009");
        is("beach: gone by a call", "work 0 0 0, razes 0, tell r0; = -2000, tell f0; = -2000, tell x00; = -2000");
        is("beach: gone by hours of the text", "tell w0000;h06;r0; = -2010, tell w0000;h05;r0; = 3");
        is("beach: a cell in which one stands", "tell w0000;w0000; = -2006");
        is("beach: one stands there by a call", "work 0 0 0 = 0, tell w0000; = -2000");
        is("beach: none stands there any more", "tell w0000;r0;w1000; = 3, at 0 = 1");
        is("beach: none stands there by hours", "tell w0000;h06;w1000; = 3, at 0 = 1");
        is("beach: eight works", "tell " + Script.EIGHT + " = 8, count 0 = 8");
        is("beach: a ninth", "tell " + Script.EIGHT + "w0008; = -2048, count 0 = 0");
        is("beach: a ninth, one gone", "tell " + Script.EIGHT + "r0;w0008; = -2051");
        is("beach: a ninth behind calls", "tell " + Script.EIGHT + " = 8, tell w0008; = -2000");
        is("beach: worn of eight", "tell " + Script.EIGHT + "x79; = 9, workOf 7 3 = 9");
    }

    /** 3: kind 2: the greatest hour */
    private static void beachAsStatementsOfHours() {
        is("beach: to hour 999", Script.HOUR_960 + "tell h39; = 1, count 1 = 999");
        is("beach: to hour 1000", Script.HOUR_960 + "tell h40; = -2000, count 1 = 960");
        is("beach: to hour 1000 by two", Script.HOUR_960 + "tell h30;h10; = -2004, count 1 = 960");
        is("beach: at hour 999", Script.HOUR_999 + "tell h01; = -2000, tell p; = 1");
    }

    /** 3: a fault */
    private static void beachWithAFault() {
        String state = "work 4 0 0, work 0 0 1, hours 1, ";
        String same = ", count 0 = 2, count 1 = 1, count 2 = 7, count 3 = 20, count 4 = 3, workOf 0 3 = 0, at 2 = -9";
        is("beach: with a fault of kind 1 nothing comes", state + "tell w0002;x05;r1;p;h01;p = -1020" + same);
        is("beach: with one of kind 2 nothing comes", state + "tell w0002;x05;r1;p;h01;r9; = -2019" + same);
        is("beach: a fault leaves what can be taken back", state + "tell r9; = -2000, tell r = -1001, count 8 = 1, "
            + "back = 0, count 1 = 0");
        is("beach: a fault is no refusal", "tell r9; = -2000, tell r = -1001, beach = -1000, tell w6000; = -2000, "
            + "count 11 = 0, count 12 = 0, count 13 = 0, count 14 = 0, count 15 = 0, count 16 = 0");
        is("beach: a fault leaves the row", "row 5, tell r9; = -2000, tell z = -1000, count 7 = 1");
        is("beach: a fault leaves the image", "hours 3, image, hours 1, tell r9; = -2000, restore = 3");
    }

    /** 3: none */
    private static void beachWithout() {
        is("beach: one statement", "tell p; = 1");
        is("beach: 48 statements", "tell " + "p;".repeat(48) + " = 48");
        is("beach: purse 0 at least by paid", "tell w4000;h01;p; = 3, count 2 = 0, count 3 = 0");
        is("beach: purse less what is owed", "tell w3000;w0101;r0;h01; = 4, tell w4002;r1;h01;r2;p; = 5, "
            + "count 2 = 0");
        is("beach: paid where nothing is owed", "tell p;p; = 2, count 2 = 0, count 3 = 0");
        is("beach: on what there is", "work 0 0 0, tell w0001; = 1, count 0 = 2, at 0 = 0, at 1 = 1");
        is("beach: nothing can be taken back then", "pays, tell p; = 1, count 8 = 0, back ! -3");
        is("beach: the row stays", "row 5, tell p; = 1, count 7 = 1");
        is("beach: the image stays", "image, tell h05; = 1, restore = 0");
        is("beach: refusals stay", "at 25 ! -1, tell p; = 1, count 11 = 1");
    }

    /** 4 */
    private static void workOf() {
        is("workOf: none there", "workOf 0 0 ! -1");
        is("workOf: below the first", "work 0 0 0, workOf -1 0 ! -1");
        is("workOf: the next one", "work 0 0 0, workOf 1 0 ! -1");
        is("workOf: the last of eight", "tell " + Script.EIGHT + ", workOf 7 2 = 7");
        is("workOf: a ninth", "tell " + Script.EIGHT + ", workOf 8 2 ! -1");
        is("workOf: far off", "work 0 0 0, workOf LEAST 0 ! -1, workOf MOST 0 ! -1");
        is("workOf: the least what", "work 3 0 0, workOf 0 0 = 3");
        is("workOf: the greatest what", "work 2 0 0, workOf 0 8 = 0");
        is("workOf: what below", "work 0 0 0, workOf 0 -1 ! -2");
        is("workOf: what above", "work 0 0 0, workOf 0 9 ! -2");
        is("workOf: what far off", "work 0 0 0, workOf 0 LEAST ! -2, workOf 0 MOST ! -2");
        is("workOf: the work first", "workOf 0 9 ! -1, workOf -1 -1 ! -1");
        is("workOf: worn 0 at first", "work 0 0 0, workOf 0 3 = 0");
        is("workOf: standing at first", "work 0 0 0, workOf 0 4 = 1");
        is("workOf: razed", "work 4 7 3, razes 0, workOf 0 4 = 0, workOf 0 0 = 4, workOf 0 1 = 7, workOf 0 2 = 3");
        is("workOf: gone by hours, as worn as it was then", "work 0 0 22, hours 4, workOf 0 4 = 0, workOf 0 3 = 2");
        is("workOf: gone, what it holds and so on", "work 3 0 0, razes 0, workOf 0 5 = 4, workOf 0 6 = 20, "
            + "workOf 0 7 = 5, workOf 0 8 = 1");
    }

    /** 4: holds, rate and lets at figures 0 and 9, and holds where the third figure begins */
    private static void workOfFigures() {
        int[] holds0 = {1, 2, 2, 4, 2, 3};
        int[] holds9 = {4, 5, 11, 10, 5, 9};
        int[] rate0 = {0, 10, 5, 20, 20, 40};
        int[] rate9 = {9, 19, 5, 47, 20, 94};
        int[] lets0 = {0, 0, 0, 5, 7, 5};
        int[] lets9 = {0, 9, 0, 14, 7, 23};
        for (int kind = 0; kind < 6; kind++) {
            is("workOf: kind " + kind + " with figure 0", "work " + kind + " 0 0, workOf 0 5 = " + holds0[kind]
                + ", workOf 0 6 = " + rate0[kind] + ", workOf 0 7 = " + lets0[kind]);
            is("workOf: kind " + kind + " with figure 9", "work " + kind + " 9 0, workOf 0 5 = " + holds9[kind]
                + ", workOf 0 6 = " + rate9[kind] + ", workOf 0 7 = " + lets9[kind]);
            is("workOf: kind " + kind + " stops", "work " + kind + " 0 0, workOf 0 8 = " + (kind == 2 ? 0 : 1));
        }
        int[] wall = {1, 1, 1, 2, 2, 2, 3, 3, 3, 4};
        for (int figure = 0; figure < 10; figure++) {
            is("workOf: a wall with figure " + figure, "work 0 " + figure + " 0, workOf 0 5 = " + wall[figure]);
            is("workOf: a duchy with figure " + figure, "work 5 " + figure + " 0, "
            + "workOf 0 5 = " + (2 * wall[figure] + 1));
        }
    }

    /** 5 */
    private static void at() {
        is("at: the first cell", "work 0 0 0, at 0 = 0");
        is("at: the last cell", "work 0 0 24, at 24 = 0");
        is("at: below", "at -1 ! -1");
        is("at: above", "at 25 ! -1");
        is("at: far off", "at LEAST ! -1, at MOST ! -1");
        is("at: nothing", "at 0 = -9, at 24 = -9");
        is("at: one razed", "work 0 0 5, razes 0, at 5 = -9");
        is("at: one gone by hours", "work 0 0 22, hours 2, at 22 = 0, hours 1, at 22 = -9");
        is("at: another one behind one gone", "work 0 0 5, razes 0, work 1 0 5, at 5 = 1");
        is("at: the eighth", "tell " + Script.EIGHT + ", at 7 = 7, at 8 = -9");
    }

    /** 6 */
    private static void work() {
        is("work: the least of each", "work 0 0 0 = 0");
        is("work: the greatest of each", "work 5 9 24 = 0, workOf 0 0 = 5, workOf 0 1 = 9, workOf 0 2 = 24");
        is("work: kind below", "work -1 0 0 ! -2");
        is("work: kind above", "work 6 0 0 ! -2");
        is("work: kind far off", "work LEAST 0 0 ! -2, work MOST 0 0 ! -2");
        is("work: figure below", "work 0 -1 0 ! -4, work 0 LEAST 0 ! -4");
        is("work: figure above", "work 0 10 0 ! -6, work 0 MOST 0 ! -6");
        is("work: cell below", "work 0 0 -1 ! -1, work 0 0 LEAST ! -1");
        is("work: cell above", "work 0 0 25 ! -1, work 0 0 MOST ! -1");
        is("work: one stands there", "work 0 0 7 = 0, work 5 9 7 ! -3");
        is("work: one is gone there", "work 0 0 7 = 0, razes 0, work 5 9 7 = 1");
        is("work: the eighth", "tell w0000;w0001;w0002;w0003;w0004;w0005;w0006; = 7, work 0 0 7 = 7, count 0 = 8");
        is("work: a ninth", "tell " + Script.EIGHT + ", work 0 0 8 ! -6");
        is("work: a ninth where all are gone", "tell " + Script.EIGHT + "h60; = 9, count 4 = 0, work 0 0 8 ! -6");
        is("work: nothing can be taken back then", "pays, work 0 0 0 = 0, back ! -3");
        is("work: one refused leaves what can be taken back", "pays, work 6 0 0 ! -2, work 0 -1 0 ! -4, "
            + "work 0 10 0 ! -6, work 0 0 25 ! -1, count 8 = 1, back = 0");
        is("work: one refused as one stands there leaves it too", "work 0 0 0, pays, work 0 0 0 ! -3, back = 0");
    }

    /** 6: the first refusal that fits */
    private static void workInItsOrder() {
        is("work: kind ahead of figure below", "work 6 -1 0 ! -2");
        is("work: kind ahead of figure above", "work -1 10 0 ! -2");
        is("work: kind ahead of the cell", "work 6 0 25 ! -2");
        is("work: kind ahead of room", "tell " + Script.EIGHT + ", work 6 0 8 ! -2");
        is("work: kind ahead of one that stands there", "work 0 0 0, work 6 0 0 ! -2");
        is("work: figure below ahead of the cell", "work 0 -1 25 ! -4");
        is("work: figure below ahead of room", "tell " + Script.EIGHT + ", work 0 -1 8 ! -4");
        is("work: figure below ahead of one that stands there", "work 0 0 0, work 0 -1 0 ! -4");
        is("work: figure above ahead of the cell", "work 0 10 25 ! -6");
        is("work: figure above ahead of one that stands there", "work 0 0 0, work 0 10 0 ! -6");
        is("work: room ahead of the cell", "tell " + Script.EIGHT + ", work 0 0 25 ! -6");
        is("work: room ahead of one that stands there", "tell " + Script.EIGHT + ", work 0 0 0 ! -6");
    }

    /** 7 */
    private static void razes() {
        is("razes: none there", "razes 0 ! -1");
        is("razes: below the first", "work 0 0 0, razes -1 ! -1, razes LEAST ! -1");
        is("razes: the next one", "work 0 0 0, razes 1 ! -1, razes MOST ! -1");
        is("razes: the last of eight", "tell " + Script.EIGHT + ", razes 7 = 7");
        is("razes: a ninth", "tell " + Script.EIGHT + ", razes 8 ! -1");
        is("razes: the only one", "work 0 0 0, razes 0 = 0, count 4 = 0");
        is("razes: one razed", "work 0 0 0, razes 0, razes 0 ! -3");
        is("razes: one gone by hours", "work 0 0 22, hours 3, razes 0 ! -3");
        is("razes: one worn more than it holds stands", "tell w0000;x09;, razes 0 = 0");
        is("razes: the others are counted", "tell w0000;w0001;w0002;r0;, razes 1 = 1, razes 2 = 0");
    }

    /** 8 */
    private static void fixes() {
        is("fixes: none there", "fixes 0 ! -1");
        is("fixes: below the first", "work 0 0 0, fixes -1 ! -1, fixes LEAST ! -1");
        is("fixes: the next one", "work 0 0 0, fixes 1 ! -1, fixes MOST ! -1");
        is("fixes: the last of eight", "tell " + Script.EIGHT + "x75;, fixes 7 = 5");
        is("fixes: a ninth", "tell " + Script.EIGHT + ", fixes 8 ! -1");
        is("fixes: not worn", "work 0 0 0, fixes 0 = 0");
        is("fixes: twice", "tell w0000;x09;, fixes 0 = 9, fixes 0 = 0");
        is("fixes: worn more than it holds, it stands on", "tell w0000;x09;, fixes 0 = 9, hours 1, count 4 = 1");
        is("fixes: one razed", "work 0 0 0, razes 0, fixes 0 ! -3");
        is("fixes: one gone by hours", "work 0 0 22, hours 3, fixes 0 ! -3, workOf 0 3 = 2");
    }

    /** 9 */
    private static void pays() {
        is("pays: nothing owed", "pays = 0, count 2 = 0");
        is("pays: more than there is", "work 4 0 0, hours 1 = 7, pays = 20, count 2 = 0, count 3 = 0");
        is("pays: as much as there is", Script.RICH + "count 2 = 9999, pays = 9999, count 2 = 0, count 3 = 0");
        is("pays: anew behind it", "work 4 0 0, hours 3 = 21, pays = 60, hours 1 = 7, pays = 20, count 2 = 0");
        is("pays: purse 0 and owed", "work 0 9 0, hours 1 = 0, pays = 9, count 2 = 0");
        is("pays: twice", "work 4 0 0, hours 1, pays = 20, pays = 0, count 8 = 3");
    }

    /** 10 */
    private static void hours() {
        is("hours: the fewest", "hours 1 = 0, count 1 = 1");
        is("hours: the most", "hours 60 = 0, count 1 = 60");
        is("hours: below", "hours 0 ! -4");
        is("hours: far below", "hours -1 ! -4, hours LEAST ! -4");
        is("hours: above", "hours 61 ! -6");
        is("hours: far above", "hours MOST ! -6");
        is("hours: to 999", Script.HOUR_960 + "hours 39 = 0, count 1 = 999");
        is("hours: to 1000", Script.HOUR_960 + "hours 40 ! -6, count 1 = 960");
        is("hours: by 60 above 999", Script.HOUR_960 + "hours 60 ! -6");
        is("hours: at 999", Script.HOUR_999 + "hours 1 ! -6, hours 0 ! -4, hours 61 ! -6");
        is("hours: one refused is not counted to be taken back", "hours 0 ! -4, hours 61 ! -6, back ! -3");
    }

    /** 10: purse and owed 9999 at most */
    private static void hoursAtMost() {
        String duchies = Script.DUCHIES + "hours 12 = 2208, ";
        String later = duchies + Script.TIDE.repeat(3) + "count 2 = 8832, ";
        is("hours: owed 9776", duchies + "count 3 = 9024, hours 1 = 2392, count 3 = 9776");
        is("hours: owed 9999 at most", duchies + "hours 2 = 2576, count 3 = 9999, hours 1, count 3 = 9999");
        is("hours: purse 9936", later + "fixes 0, hours 6 = 9936");
        is("hours: purse 9999 at most", later + "fixes 0, hours 7 = 9999");
        is("hours: purse stays 9999", Script.RICH + "count 4 = 255, hours 1 = 9999, count 2 = 9999");
    }

    /** 10: what an hour does */
    private static void hoursOfWorks() {
        is("hours: worn as much as it holds", "work 0 0 22, hours 2, workOf 0 3 = 1, workOf 0 4 = 1");
        is("hours: worn more than it holds", "work 0 0 22, hours 3, workOf 0 3 = 2, workOf 0 4 = 0");
        is("hours: worn more than it holds by letters, gone behind any hour", "tell w0000;x02;, count 4 = 1, "
            + "hours 1, "
            + "count 4 = 0, workOf 0 3 = 2");
        is("hours: worn as much as it holds by letters", "tell w0000;x01;, hours 1, count 4 = 1");
        is("hours: worn no more when gone", "work 0 0 22, hours 10, workOf 0 3 = 2");
        is("hours: it lets in the hour in which it falls", "tell w4000;x03;, hours 1 = 7, count 3 = 20, hours 1 = 7");
        is("hours: one that is wet lets and owes nothing", "tell w2022;h01;, count 3 = 5, hours 1, count 3 = 5");
        is("hours: the last to be wet, the first not to be", "tell h09;w2922;, hours 1, count 3 = 0, hours 1, "
            + "count 3 = 5");
        is("hours: worn by what is beside alone", "tell h04;w0000;, hours 1, workOf 0 3 = 1");
        is("hours: not worn by two steps", "tell h03;w0000;, hours 1, workOf 0 3 = 0");
        is("hours: a wall that falls stops it in its last hour", "tell w0022;w2017;h02;, hours 1, workOf 1 3 = 1, "
            + "count 4 = 2, hours 1, workOf 1 3 = 2");
        is("hours: none stands", "hours 60 = 0, count 3 = 0, count 4 = 0");
        is("hours: a bar of five keeps all dry", "tell w0020;w0021;w0022;w0023;w0024;, hours 60, count 4 = 31, "
            + "workOf 2 3 = 0");
        is("hours: with a moat in the bar they are worn", "tell w0020;w0021;w2922;w0023;w0024;, hours 2, "
            + "workOf 1 3 = 1, "
            + "workOf 0 3 = 0, workOf 2 3 = 1");
    }

    /** 10: beside is not over the edge of a row */
    private static void hoursBeside() {
        is("hours: cell 4 is not beside 5", "tell h04;w3904;w3909;, hours 1, workOf 0 3 = 0, workOf 1 3 = 1");
        is("hours: cell 5 is not beside 4", "tell h05;w3905;w3900;w3906;w3910;, hours 1, workOf 0 3 = 0");
        is("hours: up", "tell h05;w3905;w3906;w3910;, hours 1, workOf 0 3 = 1");
        is("hours: down", "tell h05;w3905;w3900;w3906;, hours 1, workOf 0 3 = 1");
        is("hours: right", "tell h05;w3905;w3900;w3910;, hours 1, workOf 0 3 = 1");
        is("hours: left", "tell h05;w3909;w3904;w3914;, hours 1, workOf 0 3 = 1");
        is("hours: not left", "tell h05;w3909;w3904;w3914;w3908;, hours 1, workOf 0 3 = 0");
    }

    /** 11 */
    private static void back() {
        is("back: none", "back ! -3");
        is("back: the only one", "hours 5, back = 0, count 1 = 0");
        is("back: one too many", "hours 5, back = 0, back ! -3");
        is("back: what razes changed", "tell w0000;x03;, razes 0, back = 0, count 4 = 1, at 0 = 0, workOf 0 3 = 3");
        is("back: what fixes changed", "tell w0000;x03;, fixes 0, back = 0, workOf 0 3 = 3");
        is("back: what pays changed", "tell w4000;h01;, pays, back = 0, count 2 = 7, count 3 = 20");
        is("back: what hours changed", "tell w4000;x02;, hours 5 = 35, back = 0, count 1 = 0, count 2 = 0, "
            + "count 3 = 0, "
            + "count 4 = 1, workOf 0 3 = 2");
        is("back: the latest first", "hours 1, hours 2, back = 1, count 1 = 1, back = 0, count 1 = 0");
        is("back: anew behind one taken back", "hours 1, hours 2, back = 1, hours 4, count 8 = 2, back = 1, "
            + "count 1 = 1, "
            + "back = 0, count 1 = 0, back ! -3");
        is("back: it cannot be taken back itself", "hours 1, back = 0, back ! -3, count 1 = 0");
    }

    /** 11: 8 at most, and what counts */
    private static void backAtMost() {
        is("back: eight", "8x hours 1, count 8 = 8, back = 7, 6x back, back = 0, count 1 = 0, back ! -3");
        is("back: a ninth, the oldest no more", "9x hours 1, count 8 = 8, back = 7, 6x back, back = 0, count 1 = 1, "
            + "back ! -3");
        is("back: twenty", "20x hours 1, count 8 = 8, back = 7, count 1 = 19, 6x back, back = 0, count 1 = 12, "
            + "back ! -3");
        is("back: eight, some back, more", "8x hours 1, 3x back, 5x hours 2, count 8 = 8, 7x back, back = 0, "
            + "count 1 = 2, "
            + "back ! -3");
        is("back: pays where nothing is owed counts", "pays, count 8 = 1, back = 0");
        is("back: fixes of one not worn counts", "work 0 0 0, fixes 0 = 0, count 8 = 1, back = 0");
        is("back: razes refused does not count", "work 0 0 0, razes 1 ! -1, razes 0, razes 0 ! -3, count 8 = 1");
        is("back: fixes refused does not count", "work 0 0 0, fixes 1 ! -1, razes 0, fixes 0 ! -3, count 8 = 1");
        is("back: hours refused do not count", "hours 0 ! -4, hours 61 ! -6, count 8 = 0");
        is("back: a refused one ahead of it leaves it", "hours 3, back = 0, hours 5, hours 0 ! -4, back = 0, "
            + "count 1 = 0");
    }

    /** 11: what leaves none, and what is not touched */
    private static void backIsLeft() {
        is("back: work leaves none", "8x pays, work 0 0 0, count 8 = 0, back ! -3");
        is("back: a beach leaves none", "8x pays, tell p;, count 8 = 0, back ! -3");
        is("back: restore leaves none", "image, 8x pays, restore = 0, count 8 = 0, back ! -3");
        is("back: work refused leaves them", "8x pays, work 6 0 0 ! -2, count 8 = 8");
        is("back: a fault leaves them", "8x pays, tell r0; = -2000, count 8 = 8, tell r = -1001, count 8 = 8");
        is("back: restore refused leaves them", "8x pays, restore ! -3, count 8 = 8");
        is("back: an image leaves them", "hours 2, image = 2, count 8 = 1, back = 0, count 1 = 0, restore = 2");
        is("back: what comes behind one that leaves none", "pays, work 0 0 0, hours 1, count 8 = 1, back = 0, "
            + "count 1 = 0, "
            + "count 0 = 1, back ! -3");
        is("back: letters stay", "feed 112, hours 1, feed 59, back = 0, count 6 = 2, beach = 1");
        is("back: the row stays", "row 1, hours 1, row 2, back = 0, count 7 = 2");
        is("back: refusals stay", "hours 1, at 25 ! -1, back = 0, count 11 = 1");
        is("back: only asked", "work 3 9 0, work 3 9 1, hours 1, wet 6, then 9 1, driest 0, keep 0 9 0, "
            + "best 4 0 9 0, dredge 9, round -1, sand, "
            + "lots 2 5 0, swells 0 0 2 0, mended 0 1, whatWas 0 0, howHigh, two 0 1, back = 0, count 1 = 0");
    }
}
