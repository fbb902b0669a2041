/** Each promise of the document by hand: ordinary inputs, the edges it names, wrong inputs and their order. */
public final class PromisesTest {
    private static final int LEAST = -2147483648;
    private static final int MOST = 2147483647;
    private static final int ALL_CELLS = 33554431;
    private static final long TOP = 4000000000000000000L;
    /** Cell 0 behind two castles: those fall behind 42 and 28 hours, it stands longer than 60. */
    private static final String CORNER = "w3900;w3901;w3905;";
    /** Holds 2 in the topmost row: worn behind 5, 6 and 7 hours, and then gone. */
    private static final String MINT = "w4000;";
    /** In 60 hours in cell 2 over a castle that falls behind 28: worn behind 6, 18 and 29, and gone with that. */
    private static final int MINT_BEHIND_A_CASTLE = 29 * 7;

    public static void main(String[] args) {
        aNewObject();
        feed();
        beachOfLetters();
        beachThatIsNotSo();
        beachAndWhatStays();
        workOf();
        at();
        work();
        razes();
        fixes();
        pays();
        hours();
        hoursAtMost();
        back();
        backAndWhatLeavesNone();
        level();
        wet();
        then();
        floods();
        dry();
        driest();
        falls();
        keep();
        keepAmongWorks();
        best();
        dredge();
        round();
        assessed();
        whatWas();
        howHigh();
        two();
        swells();
        shares();
        weakest();
        mean();
        low();
        sand();
        mended();
        pairs();
        turrets();
        row();
        judge();
        clear();
        lots();
        imageAndRestore();
        count();
        refusalsAreCounted();
        refusalsChangeNothing();
        Check.ends();
    }

    private static long tells(CastlesAreAssessed x, String text) {
        for (int i = 0; i < text.length(); i++) {
            x.feed(text.charAt(i));
        }
        return x.beach();
    }

    private static CastlesAreAssessed told(String text) {
        CastlesAreAssessed x = new CastlesAreAssessed();
        Check.holds(text + " is a beach", tells(x, text) > 0);
        return x;
    }

    private static void due(String call, long got, long want) {
        Check.due(call, got, want);
    }

    /** 1 */
    private static void aNewObject() {
        CastlesAreAssessed x = new CastlesAreAssessed();
        for (int what = 0; what <= 16; what++) {
            due("new count " + what, x.count(what), what == 9 || what == 10 ? -9 : 0);
        }
        due("new at", x.at(12), -9);
        due("new back", x.back(), -3);
        due("new restore", x.restore(), -3);
        due("new beach", x.beach(), -1000);
    }

    /** 2 */
    private static void feed() {
        CastlesAreAssessed x = new CastlesAreAssessed();
        due("feed", x.feed(0), 1);
        due("feed", x.feed(255), 2);
        due("feed below", x.feed(-1), -4);
        due("feed below", x.feed(LEAST), -4);
        due("feed above", x.feed(256), -6);
        due("feed above", x.feed(MOST), -6);
        due("letters", x.count(6), 2);
        for (int i = 3; i <= 96; i++) {
            due("feed", x.feed('p'), i);
        }
        due("feed full", x.feed('p'), -6);
        due("feed full, below", x.feed(-1), -4);
        due("letters", x.count(6), 96);
        due("refusals -4", x.count(14), 3);
        due("refusals -6", x.count(16), 3);
    }

    /** 3: kind 1 */
    private static void beachOfLetters() {
        String[] texts = {"", "z", "w0922;z", "w0922", "w092;", "p", "p;p", "p,", "h1", "h1;", "p;;", "w", "W0922;",
            "x0;", "x05", "r;", "f12;", "w6000;q", "0", "w0922;w092", "h6q;", "p; p;", "r0;\u00ff", "w/000;", "w:000;"};
        int[] places = {0, 0, 6, 5, 4, 1, 3, 1, 2, 2, 2, 1, 0, 2, 3, 1, 2, 6, 0, 10, 2, 2, 3, 1, 1};
        for (int i = 0; i < texts.length; i++) {
            CastlesAreAssessed x = new CastlesAreAssessed();
            due("beach of " + texts[i], tells(x, texts[i]), -1000 - places[i]);
            due("letters then", x.count(6), 0);
            due("works then", x.count(0), 0);
        }
        CastlesAreAssessed x = new CastlesAreAssessed();
        due("beach of 96 letters that ends too soon", tells(x, "p;".repeat(47) + "w0"), -1096);
        due("beach of 48 statements", tells(x, "p;".repeat(48)), 48);
    }

    /** 3: kind 2 */
    private static void beachThatIsNotSo() {
        String eight = "w0000;w0001;w0002;w0003;w0004;w0005;w0006;w0007;";
        String[] texts = {"w6000;", "w9000;", "p;w0025;", "w0099;", "w0022;w0022;", "w0022;r0;r0;", "w0022;r0;f0;",
            "w0022;r0;x05;", "r0;", "w0022;f1;", "w0022;x15;", "h00;", "h61;", "p;h99;", eight + "w0008;",
            eight + "r0;w0000;", "w0022;h03;r0;", "h01;w0022;w1022;p;", "w0022;p;x98;"};
        int[] places = {0, 0, 2, 0, 6, 9, 9, 9, 0, 6, 6, 0, 0, 2, 48, 51, 10, 10, 8};
        for (int i = 0; i < texts.length; i++) {
            CastlesAreAssessed x = new CastlesAreAssessed();
            due("beach of " + texts[i], tells(x, texts[i]), -2000 - places[i]);
            due("works then", x.count(0), 0);
            due("hour then", x.count(1), 0);
            due("letters then", x.count(6), 0);
        }
        CastlesAreAssessed x = new CastlesAreAssessed();
        for (int i = 0; i < 16; i++) {
            due("sixty hours", tells(x, "h60;"), 1);
        }
        due("hour 1000", tells(x, "h40;"), -2000);
        due("hour 1000", tells(x, "h30;h10;"), -2004);
        due("hour 999", tells(x, "h30;h09;"), 2);
        due("hour", x.count(1), 999);
        due("a fault is no refusal", x.count(11) + x.count(12) + x.count(13) + x.count(14) + x.count(16), 0);
    }

    /** 3: what comes of a text */
    private static void beachAndWhatStays() {
        CastlesAreAssessed x = new CastlesAreAssessed();
        due("beach", tells(x, "w0922;w5012;"), 2);
        due("kind", x.workOf(1, 0), 5);
        due("figure", x.workOf(0, 1), 9);
        due("cell", x.workOf(0, 2), 22);
        due("a beach more", tells(x, "x17;w1300;r0;"), 3);
        due("works", x.count(0), 3);
        due("standing", x.count(4), 6);
        due("worn", x.workOf(1, 3), 7);
        due("beach", tells(x, "f1;"), 1);
        due("worn", x.workOf(1, 3), 0);
        due("hours and paid", tells(x, "h02;p;"), 2);
        due("hour", x.count(1), 2);
        due("owed", x.count(3), 0);
        due("purse: 2 times 5 and 3, less 2 times 40 and 13", x.count(2), 0);
        due("a cell whose work is gone", tells(x, "w4922;"), 1);
        due("the new one", x.at(22), 3);
        due("letters of a text before are no more", tells(x, "w1"), -1002);
        due("letters of a text before are no more", tells(x, "p"), -1001);
        CastlesAreAssessed y = told("w4000;w0010;h02;p;");
        due("purse less owed", y.count(2), 0);
        due("hours of a text", tells(y, "h01;"), 1);
        due("purse", y.count(2), 7);
    }

    /** 4 */
    private static void workOf() {
        CastlesAreAssessed x = told("w0700;w1701;w2702;w3703;w4704;w5705;w0222;w0924;");
        int[] holds = {3, 4, 9, 8, 4, 7, 1, 4};
        int[] rates = {7, 17, 5, 41, 20, 82, 2, 9};
        int[] lets = {0, 7, 0, 12, 7, 19, 0, 0};
        int[] stops = {1, 1, 0, 1, 1, 1, 1, 1};
        for (int work = 0; work < 8; work++) {
            due("kind", x.workOf(work, 0), work < 6 ? work : 0);
            due("figure", x.workOf(work, 1), work < 6 ? 7 : work == 6 ? 2 : 9);
            due("cell", x.workOf(work, 2), work < 6 ? work : work == 6 ? 22 : 24);
            due("worn", x.workOf(work, 3), 0);
            due("standing", x.workOf(work, 4), 1);
            due("holds of " + work, x.workOf(work, 5), holds[work]);
            due("rate of " + work, x.workOf(work, 6), rates[work]);
            due("lets of " + work, x.workOf(work, 7), lets[work]);
            due("stops of " + work, x.workOf(work, 8), stops[work]);
        }
        x.razes(3);
        due("one gone", x.workOf(3, 4), 0);
        due("rate of one gone", x.workOf(3, 6), 41);
        due("no such work", x.workOf(8, 0), -1);
        due("no such work", x.workOf(-1, 9), -1);
        due("no such work", x.workOf(LEAST, 9), -1);
        due("no such what", x.workOf(0, 9), -2);
        due("no such what", x.workOf(0, -1), -2);
        due("refusals", x.count(11) * 10 + x.count(12), 32);
        due("no work yet", told("w0000;").workOf(1, 0), -1);
    }

    /** 5 */
    private static void at() {
        CastlesAreAssessed x = told("w0922;w0900;");
        due("at", x.at(22), 0);
        due("at", x.at(0), 1);
        due("at none", x.at(24), -9);
        x.razes(0);
        due("at one gone", x.at(22), -9);
        due("at", x.at(25), -1);
        due("at", x.at(-1), -1);
        due("refusals", x.count(11), 2);
    }

    /** 6 */
    private static void work() {
        CastlesAreAssessed x = new CastlesAreAssessed();
        due("work", x.work(3, 9, 24), 0);
        due("work", x.work(0, 0, 0), 1);
        due("kind first", x.work(6, -1, 25), -2);
        due("kind first", x.work(-1, 10, 24), -2);
        due("figure below", x.work(0, -1, 25), -4);
        due("figure above", x.work(0, 10, 25), -6);
        due("cell", x.work(0, 0, 25), -1);
        due("cell", x.work(0, 0, -1), -1);
        due("one stands there", x.work(5, 9, 24), -3);
        due("works", x.count(0), 2);
        x.razes(0);
        due("where one is gone", x.work(5, 9, 24), 2);
        due("is worn", x.workOf(2, 3), 0);
        for (int i = 3; i < 8; i++) {
            due("work", x.work(2, 4, i), i);
        }
        due("no room", x.work(0, 0, 25), -6);
        due("no room, one stands there", x.work(0, 0, 24), -6);
        due("no room, figure", x.work(0, -1, 25), -4);
        due("no room, kind", x.work(9, -1, 25), -2);
        x.razes(7);
        due("no room though one is gone", x.work(0, 0, 20), -6);
        due("works", x.count(0), 8);
    }

    /** 7 */
    private static void razes() {
        CastlesAreAssessed x = told("w0922;w0900;w2912;");
        due("razes", x.razes(1), 2);
        due("standing", x.count(4), 5);
        due("razes", x.razes(0), 1);
        due("razes again", x.razes(0), -3);
        due("no such", x.razes(3), -1);
        due("no such", x.razes(-1), -1);
        due("razes", x.razes(2), 0);
        due("to take back", x.count(8), 3);
    }

    /** 8 */
    private static void fixes() {
        CastlesAreAssessed x = told("w0922;x07;w0900;");
        due("fixes", x.fixes(0), 7);
        due("fixes", x.fixes(0), 0);
        due("worn", x.workOf(0, 3), 0);
        x.razes(1);
        due("one gone", x.fixes(1), -3);
        due("no such", x.fixes(2), -1);
        due("no such", x.fixes(-1), -1);
        due("to take back", x.count(8), 3);
    }

    /** 9 */
    private static void pays() {
        CastlesAreAssessed x = told("w4000;w0510;h01;");
        due("owed: 20 and 5", x.count(3), 25);
        due("pays", x.pays(), 25);
        due("owed", x.count(3), 0);
        due("purse, 0 at least", x.count(2), 0);
        due("pays", x.pays(), 0);
        CastlesAreAssessed y = told("w4000;h04;p;r0;w1901;w3002;");
        due("purse", y.count(2), 0);
        due("hour: 9 and 5", y.hours(1), 14);
        due("pays 19 and 20", y.pays(), 39);
        CastlesAreAssessed z = told("w4000;h04;");
        z.pays();
        z.hours(1);
        due("purse 7", z.count(2), 7);
        due("two to take back", z.count(8), 2);
    }

    /** 10 */
    private static void hours() {
        CastlesAreAssessed x = told(MINT);
        due("an hour", x.hours(1), 7);
        due("owed", x.count(3), 20);
        due("hours", x.hours(3), 28);
        due("not worn yet", x.workOf(0, 3), 0);
        due("hours", x.hours(1), 35);
        due("worn by the cell below it", x.workOf(0, 3), 1);
        due("hours", x.hours(1), 42);
        due("stands with what it holds", x.workOf(0, 3) * 10 + x.count(4), 21);
        due("lets in the hour in which it falls", x.hours(1), 49);
        due("gone", x.workOf(0, 3) * 10 + x.count(4), 30);
        due("hours", x.hours(60), 49);
        due("owed", x.count(3), 140);
        due("worn no more", x.workOf(0, 3), 3);
        CastlesAreAssessed y = told("w2922;w0900;");
        due("a moat lets nothing", y.hours(3), 0);
        due("a moat that is wet owes nothing: 1 hour of 5, 3 of 9", y.count(3), 32);
        due("a moat is worn", y.workOf(0, 3), 2);
        CastlesAreAssessed z = told("w0022;x09;");
        due("worn more than it holds, it stands", z.count(4), 1);
        z.hours(1);
        due("and is gone behind any hour", z.count(4), 0);
        due("dry as it is", z.workOf(0, 3), 9);
        due("below", x.hours(0), -4);
        due("below", x.hours(LEAST), -4);
        due("above", x.hours(61), -6);
        due("above", x.hours(MOST), -6);
        due("hour", x.count(1), 67);
    }

    /** 10: the greatest hour, purse and owed */
    private static void hoursAtMost() {
        CastlesAreAssessed x = new CastlesAreAssessed();
        for (int i = 0; i < 16; i++) {
            x.hours(60);
        }
        due("above 999", x.hours(40), -6);
        due("hours", x.hours(39), 0);
        due("hour", x.count(1), 999);
        due("above 999", x.hours(1), -6);
        due("level beyond 999", x.level(3), 5);
        due("wet beyond 999", x.wet(3), ALL_CELLS);
        CastlesAreAssessed y = told("w5900;w5901;w5902;w5903;w5904;w5905;w5906;w5907;");
        due("184 an hour", y.hours(12), 2208);
        due("752 an hour", y.count(3), 9024);
        for (int tide = 0; tide < 5; tide++) {
            for (int work = 0; work < 8; work++) {
                y.fixes(work);
            }
            y.hours(12);
        }
        due("all stand", y.count(4), 255);
        due("purse at most", y.count(2), 9999);
        due("owed at most", y.count(3), 9999);
        due("pays", y.pays(), 9999);
    }

    /** 11 */
    private static void back() {
        CastlesAreAssessed x = told("w4000;x02;w0901;");
        x.hours(5);
        x.fixes(1);
        x.razes(1);
        x.pays();
        due("gone by hours", x.count(4), 0);
        due("purse less 145", x.count(2), 0);
        due("back", x.back(), 3);
        due("owed again", x.count(3), 145);
        due("purse again", x.count(2), 35);
        due("back", x.back(), 2);
        due("stands again", x.count(4), 2);
        due("back", x.back(), 1);
        due("worn again", x.workOf(1, 3), 1);
        due("back", x.back(), 0);
        due("hour again", x.count(1), 0);
        due("worn again", x.workOf(0, 3), 2);
        due("stand again", x.count(4), 3);
        due("purse again", x.count(2), 0);
        due("none", x.back(), -3);
        CastlesAreAssessed y = told("w4000;");
        for (int i = 0; i < 11; i++) {
            y.hours(1);
            due("at most 8", y.count(8), Math.min(8, i + 1));
        }
        for (int i = 7; i >= 0; i--) {
            due("back", y.back(), i);
            due("hour", y.count(1), 3 + i);
        }
        due("none", y.back(), -3);
        due("hour", y.count(1), 3);
        due("refusals", y.count(13), 1);
        y.fixes(0);
        y.fixes(5);
        y.hours(0);
        due("refused ones do not count", y.count(8), 1);
    }

    /** 11: work(), a beach without fault, restore() */
    private static void backAndWhatLeavesNone() {
        CastlesAreAssessed x = told("w0922;");
        x.pays();
        x.work(0, 0, 22);
        tells(x, "r9;");
        tells(x, "r");
        x.restore();
        x.image();
        x.feed('p');
        x.feed(';');
        due("refused and faults leave it", x.count(8), 1);
        due("beach", x.beach(), 1);
        due("a beach leaves none", x.back(), -3);
        x.pays();
        x.work(0, 0, 0);
        due("work leaves none", x.back(), -3);
        x.pays();
        x.restore();
        due("restore leaves none", x.back(), -3);
    }

    /** 12 */
    private static void level() {
        CastlesAreAssessed x = new CastlesAreAssessed();
        int[] levels = {0, 0, 1, 2, 3, 4, 5, 4, 3, 2, 1, 0};
        for (int n = 0; n <= 60; n++) {
            due("level " + n, x.level(n), levels[n % 12]);
        }
        x.hours(7);
        due("level at 7", x.level(0), 4);
        due("level at 67", x.level(60), 4);
        due("below", x.level(-1), -4);
        due("below", x.level(LEAST), -4);
        due("above", x.level(61), -6);
        due("above", x.level(MOST), -6);
    }

    /** 13 */
    private static void wet() {
        CastlesAreAssessed x = told("w0022;w2020;");
        int lowest = 31 << 20;
        due("wet now", x.wet(0), 0);
        due("a wall stops it, a moat does not", x.wet(2), lowest - (1 << 22));
        due("a wall worn down lets it in", x.wet(3), lowest + (31 << 15));
        due("all", x.wet(6), ALL_CELLS);
        due("nothing was changed", x.count(4) * 1000 + x.count(1), 3000);
        CastlesAreAssessed y = told("w5910;w5916;w5920;");
        due("a cell that does not hang together with the sea", y.wet(4), (1023 << 15) + (31 << 10)
            - (1 << 10) - (1 << 15) - (1 << 16) - (1 << 20));
        y.razes(1);
        due("but now", y.wet(4), (1023 << 15) + (31 << 10) - (1 << 10) - (1 << 20));
        CastlesAreAssessed z = told("w5916;w5920;");
        due("no way above its level", z.wet(3), (1023 << 15) - (1 << 15) - (1 << 16) - (1 << 20));
        due("a way round", z.wet(4), (32767 << 10) - (1 << 16) - (1 << 20));
        due("below", x.wet(-1), -4);
        due("above", x.wet(61), -6);
        due("sixty", x.wet(60), 0);
    }

    /** 14 */
    private static void then() {
        CastlesAreAssessed x = told(MINT + "w0901;");
        due("now", x.then(0, 0), 3);
        due("stands", x.then(6, 0), 3);
        due("gone", x.then(7, 0), 2);
        due("purse", x.then(7, 1), 49);
        due("purse", x.then(60, 1), 49);
        due("owed", x.then(7, 2), 140 + 63);
        due("in mind", x.count(1), 0);
        due("below", x.then(-1, 3), -4);
        due("above", x.then(61, 3), -6);
        due("what", x.then(60, 3), -2);
        due("what", x.then(0, -1), -2);
    }

    /** 15 */
    private static void floods() {
        CastlesAreAssessed x = told("w0912;");
        due("behind the wall that holds 4", x.floods(12), 7);
        due("row 4", x.floods(24), 2);
        due("row 0", x.floods(0), 6);
        x.hours(6);
        due("now", x.floods(0), 0);
        due("a wall still", x.floods(12), 1);
        due("never in 60", told(CORNER).floods(0), -9);
        due("behind 60, as a castle falls", told("h06;" + CORNER + "x03;").floods(0), 60);
        due("not behind 60", told("h06;" + CORNER + "x02;").floods(0), -9);
        due("no such", x.floods(25), -1);
        due("no such", x.floods(-1), -1);
    }

    /** 16 */
    private static void dry() {
        CastlesAreAssessed x = new CastlesAreAssessed();
        due("row 0", x.dry(4), 55);
        due("row 1", x.dry(5), 45);
        due("row 4", x.dry(20), 15);
        x.work(0, 9, 12);
        due("row 2 is wet 5 of 12, but for 3 of the wall's", x.dry(12), 60 - 25 + 3);
        due("always", told(CORNER).dry(0), 60);
        due("but behind 60", told("h06;" + CORNER + "x03;").dry(0), 59);
        x.hours(6);
        due("behind 1 of 60, not now", x.dry(0), 55);
        due("no such", x.dry(25), -1);
        due("no such", x.dry(-1), -1);
    }

    /** 17 */
    private static void driest() {
        CastlesAreAssessed x = new CastlesAreAssessed();
        due("the least of several", x.driest(0), 0);
        due("how often", x.driest(1), 55);
        x.work(3, 9, 4);
        due("a castle's cell", x.driest(0), 4);
        due("how often, 4 tides of 5: wet at 42 and 54", x.driest(1), 58);
        due("what", x.driest(2), -2);
        due("what", x.driest(-1), -2);
    }

    /** 18 */
    private static void falls() {
        CastlesAreAssessed x = told(CORNER);
        due("never in 60", x.falls(0), -9);
        due("falls", x.falls(1), 42);
        due("falls", x.falls(2), 28);
        due("first", x.falls(-1), 2);
        x.razes(2);
        due("gone now", x.falls(2), 0);
        due("first of those that stand", x.falls(-1), 0);
        due("at one time with the next", x.falls(0) * 100 + x.falls(1), 4242);
        due("none", new CastlesAreAssessed().falls(-1), -9);
        due("no such", x.falls(3), -1);
        due("no such", x.falls(-2), -1);
        CastlesAreAssessed y = told("h05;" + CORNER + "x03;");
        due("behind 60", y.falls(0), 60);
        y.razes(1);
        y.razes(2);
        due("sooner with the sea beside it", y.falls(0) < 60 ? 1 : 0, 1);
        CastlesAreAssessed z = told("h05;" + CORNER + "x02;");
        due("not behind 60", z.falls(0), -9);
    }

    /** 19 */
    private static void keep() {
        CastlesAreAssessed x = new CastlesAreAssessed();
        due("none needed", x.keep(0, 5, 0), 0);
        due("none needed, no first", x.keep(0, 5, 1), -9);
        due("one, the cell itself", x.keep(0, 6, 0), 1);
        due("first", x.keep(0, 6, 1), 0);
        due("one, the cell itself", x.keep(3, 17, 1), 3);
        due("two: it and the one below", x.keep(4, 24, 0), 2);
        due("first of two", x.keep(4, 24, 1), 4);
        due("first of two", x.keep(0, 24, 1), 0);
        due("not by two", x.keep(24, 9, 0), -9);
        due("not by two", x.keep(24, 9, 1), -9);
        x.hours(6);
        due("wet now, walls come at once", x.keep(0, 1, 0), 1);
        due("in mind", x.count(0), 0);
        due("cell first", x.keep(25, 0, 2), -1);
        due("cell", x.keep(-1, 1, 0), -1);
        due("below", x.keep(0, 0, 2), -4);
        due("above", x.keep(0, 25, 2), -6);
        due("what", x.keep(0, 24, 2), -2);
        due("what", x.keep(0, 24, -1), -2);
    }

    /** 19: cells in which something stands; eight works there are */
    private static void keepAmongWorks() {
        CastlesAreAssessed x = told("w3900;w3901;w3902;w3903;w3904;w3905;w2006;w3907;");
        due("a cell in which a moat stands, three beside it stop", x.keep(6, 6, 0), 1);
        due("its open side", x.keep(6, 6, 1), 11);
        due("not in the moat's cell", told("w2020;").keep(20, 2, 0), -9);
        CastlesAreAssessed y = told("w3910;w2015;");
        due("both sides of a moat", y.keep(15, 5, 0), 2);
        due("the first", y.keep(15, 5, 1), 16);
        CastlesAreAssessed z = told("w2006;w2007;w3901;w3902;w3905;w3908;");
        due("two cells side by side", z.keep(6, 6, 0), 2);
        due("the first", z.keep(6, 6, 1), 11);
        due("walls there are worn too: 5 by 7, but dry is row 1 from 8", z.keep(6, 7, 0), -9);
    }

    /** 20 */
    private static void best() {
        CastlesAreAssessed x = told("w3907;");
        due("behind the castle", x.best(4, 0, 12, 0), 2);
        due("84 and 12 times 14", x.best(4, 0, 12, 1), 84 + 168);
        due("all the same", x.best(4, 0, 0, 0), 0);
        due("the purse as it is", x.best(4, 0, 0, 1), 0);
        due("29 times 7 more", x.best(4, 0, 60, 1), x.then(60, 1) + MINT_BEHIND_A_CASTLE);
        due("not where the first one stands", told("w0000;").best(4, 0, 0, 0), 1);
        x.work(0, 0, 0);
        due("not where one stands", x.best(4, 0, 0, 0), 1);
        due("in mind", x.count(0), 2);
        due("kind", x.best(6, -1, 61, 0), -2);
        due("what before the rest", x.best(0, -1, -1, 2), -2);
        due("what", x.best(0, 0, 0, -1), -2);
        due("figure below", x.best(0, -1, 61, 0), -4);
        due("n below before above", x.best(0, 10, -1, 0), -4);
        due("figure above", x.best(0, 10, 0, 0), -6);
        due("n above", x.best(0, 0, 61, 0), -6);
        for (int i = 10; i < 16; i++) {
            x.work(0, 0, i);
        }
        due("no room", x.best(0, 0, 0, 0), -6);
        due("no room, kind", x.best(-1, 0, 0, 0), -2);
        due("no room, below", x.best(0, 0, -1, 0), -4);
    }

    /** 21 */
    private static void dredge() {
        CastlesAreAssessed x = told("w0000;w0901;w1902;w0903;");
        due("owes 9 for nothing", x.dredge(1), 2);
        due("nothing yet", x.dredge(0), -9);
        x.razes(2);
        due("the least of several", x.dredge(1), 1);
        due("in mind", x.count(4), 11);
        due("the first one", told("w0900;").dredge(1), 0);
        due("nothing lets be more", told("w0000;").dredge(60), -9);
        due("none", new CastlesAreAssessed().dredge(60), -9);
        due("below", x.dredge(-1), -4);
        due("above", x.dredge(61), -6);
    }

    /** 22 */
    private static void round() {
        CastlesAreAssessed x = told("w0004;w0024;w0020;");
        due("steps", x.round(-1), 12);
        due("of two as short the one that is first by numbers", x.round(0), 4);
        due("then", x.round(1), 24);
        due("then", x.round(2), 20);
        due("no more", x.round(3), -9);
        due("no more", x.round(MOST), -9);
        x.razes(0);
        due("steps", x.round(-1), 8);
        due("first", x.round(0), 20);
        due("by numbers, but shortest", x.round(1), 24);
        due("no more", x.round(2), -9);
        CastlesAreAssessed y = told("w0024;w0000;w0012;w0020;w0004;w0001;w0003;w0021;");
        due("eight: 0 1 3 4, 12, then 21 20 24 is 4 and 4 and 3 and 1 and 4", y.round(-1), 16);
        due("begins where it stands", y.round(0), 0);
        due("from cell 0", told("w0020;w0004;").round(0), 20);
        due("none", new CastlesAreAssessed().round(-1), 0);
        due("none", new CastlesAreAssessed().round(0), -9);
        due("below", x.round(-2), -4);
        due("below", x.round(LEAST), -4);
    }

    /** 23 */
    private static void assessed() {
        CastlesAreAssessed x = told("w0700;w4001;w1002;w1003;w4004;");
        due("rates", x.assessed(0), 7 + 20 + 10 + 10 + 20);
        due("dearest, the least of several", x.assessed(1), 1);
        x.razes(1);
        due("rates", x.assessed(0), 47);
        due("dearest", x.assessed(1), 4);
        x.hours(1);
        due("arrears", x.assessed(2), 40);
        CastlesAreAssessed y = told("w4000;h01;p;r0;h01;");
        due("no arrears", y.assessed(2), 0);
        due("the first one is dearest", told("w5900;w0001;w0902;").assessed(1), 0);
        due("none", y.assessed(0), 0);
        due("none", y.assessed(1), -9);
        CastlesAreAssessed z = told("w2000;w2004;w0001;w0005;w5022;");
        due("not wet when it is 5", z.assessed(3), 1 + 4 + 8 + 16);
        z.razes(2);
        due("but now", z.assessed(3), 8 + 16);
        due("what", x.assessed(4), -2);
        due("what", x.assessed(-1), -2);
    }

    /** 24 */
    private static void whatWas() {
        CastlesAreAssessed x = told("w0022;");
        due("nothing told", x.whatWas(0, 0), 63);
        due("nothing told", x.whatWas(0, 1), 1023);
        rows(x, 0, 0, 1, 2, 2);
        due("holds 1", x.whatWas(0, 0), 1);
        due("holds 1", x.whatWas(0, 1), 7);
        due("the row stays", x.clear(), 5);
        rows(x, 0, 0, 1, 2, 3, 3);
        due("holds 2", x.whatWas(0, 0), 2 + 4 + 16);
        due("holds 2", x.whatWas(0, 1), 8 + 16 + 32);
        x.clear();
        rows(x, 1);
        due("not so now", x.whatWas(0, 0), 0);
        due("in mind", x.workOf(0, 0) + x.workOf(0, 1) + x.count(1), 0);
        CastlesAreAssessed y = told("w0322;x02;r0;");
        rows(y, 2, 2, 2, 2, 2, 2, 2, 2, 2, 2, 2, 2);
        due("one gone", y.whatWas(0, 0), 63);
        due("no such", x.whatWas(1, 2), -1);
        due("no such", x.whatWas(-1, 0), -1);
        due("what", x.whatWas(0, 2), -2);
        due("what", x.whatWas(0, -1), -2);
    }

    private static void rows(CastlesAreAssessed x, int... numbers) {
        for (int number : numbers) {
            x.row(number);
        }
    }

    /** 25 */
    private static void howHigh() {
        CastlesAreAssessed x = new CastlesAreAssessed();
        due("nothing told", x.howHigh(), 4095);
        rows(x, 25);
        due("all wet", x.howHigh(), 64);
        x.clear();
        rows(x, 0);
        due("all dry", x.howHigh(), 1 + 2 + 2048);
        rows(x, 0);
        due("and an hour on", x.howHigh(), 1 + 2048);
        due("the row stays", x.clear(), 2);
        rows(x, 5, 0);
        due("going", x.howHigh(), 1024);
        x.clear();
        rows(x, 4);
        due("never", x.howHigh(), 0);
        x.work(0, 0, 22);
        due("a wall in row 4", x.howHigh(), 4 + 1024);
        rows(x, 10);
        due("it is worn down: 2 at 3", x.howHigh(), 0);
        x.clear();
        rows(x, 4, 9);
        due("worn 1 at 3", x.howHigh(), 4);
        x.hours(2);
        due("whatever the hour is, with the wall worn", x.howHigh(), 0);
    }

    /** 26 */
    private static void two() {
        CastlesAreAssessed x = told("w1500;w0004;w0902;r2;");
        due("rate 0: the first pair", x.two(0, 1), 0);
        due("the second pays", x.two(1, 0), 1);
        x.work(4, 0, 3);
        due("the second pays, the first does not", x.two(0, 3), 1);
        due("in mind", x.count(1) + x.count(2) + x.count(3), 0);
        due("one twice", x.two(0, 0), -1);
        due("one twice, gone", x.two(2, 2), -1);
        due("no such", x.two(0, 4), -1);
        due("no such", x.two(-1, 2), -1);
        due("no such before gone", x.two(2, 4), -1);
        due("gone", x.two(0, 2), -3);
        due("gone", x.two(2, 0), -3);
        due("a moat that is wet for six hours", told("h04;w1900;w2920;").two(0, 1), 0);
        due("a moat that is wet for five of them", told("h05;w1900;w2920;").two(0, 1), 1);
        CastlesAreAssessed y = told("w5900;w5901;w5902;w5903;w5904;w5905;w5906;w5907;h13;");
        y.hours(3);
        due("owed is full", y.two(0, 1), 0);
    }

    /** 27 */
    private static void swells() {
        CastlesAreAssessed x = told("h09;w0310;w0612;");
        fraction("both swells stay away", x, 0, 7, 3, 4, 9);
        fraction("not both come", x, 1, 7, 3, 8, 9);
        fraction("in lowest terms", x, 0, 7, 4, 9, 16);
        fraction("not both", x, 0, 6, 20, 399, 400);
        fraction("surely", x, 0, 4, 20, 1, 1);
        fraction("surely", x, 0, 0, 2, 1, 1);
        fraction("likely", x, 0, 7, 20, 361, 400);
        CastlesAreAssessed y = told("h03;w0000;w0302;w0004;r2;");
        fraction("a half", y, 0, 2, 2, 1, 2);
        fraction("no more", y, 0, 3, 20, 0, 1);
        fraction("5 at most", y, 1, 3, 20, 19, 20);
        fraction("gone now", y, 2, 0, 2, 0, 1);
        due("in mind", y.count(1), 3);
        due("no such", x.swells(2, -1, 1, 2), TOP + 1);
        due("no such", x.swells(-1, 0, 2, 0), TOP + 1);
        due("n below", x.swells(0, -1, 21, 2), TOP + 4);
        due("t below before n above", x.swells(0, 8, 1, 2), TOP + 4);
        due("n above", x.swells(0, 8, 2, 2), TOP + 6);
        due("t above", x.swells(0, 7, 21, 2), TOP + 6);
        due("part", x.swells(0, 7, 20, 2), TOP + 2);
        due("part", x.swells(0, 7, 20, -1), TOP + 2);
        due("refusals", x.count(11) * 1000 + x.count(12) * 100 + x.count(14) * 10 + x.count(16), 2222);
    }

    private static void fraction(String call, CastlesAreAssessed x, int work, int n, int t, long above, long below) {
        due(call + ", above", x.swells(work, n, t, 0), above);
        due(call + ", below", x.swells(work, n, t, 1), below);
    }

    /** 28 */
    private static void shares() {
        CastlesAreAssessed x = told(MINT + "h07;");
        due("49 over 9", x.shares(9, 0), 5);
        due("is over", x.shares(9, 1), 4);
        due("49 over 1", x.shares(1, 0), 49);
        due("is over", x.shares(1, 1), 0);
        due("the purse stays", x.count(2), 49);
        due("below", x.shares(0, 2), -4);
        due("below", x.shares(LEAST, 0), -4);
        due("above", x.shares(10, 2), -6);
        due("what", x.shares(9, 2), -2);
        due("what", x.shares(9, -1), -2);
    }

    /** 29 */
    private static void weakest() {
        CastlesAreAssessed x = told("w0022;w0900;x13;w0023;w0901;w0012;");
        due("holds 1, of several the least", x.weakest(0), 0);
        tells(x, "x14;");
        due("holds no more", x.weakest(0), 1);
        tells(x, "x19;x29;");
        due("below 0 too: 4 less 9, 1 less 9", x.weakest(0), 2);
        due("alone", x.weakest(1), 16);
        due("highest, of several the least", x.weakest(2), 1);
        due("ruins", x.weakest(3), 0);
        x.razes(1);
        due("alone, as what stood beside is gone", x.weakest(1), 16 + 8);
        due("highest", x.weakest(2), 3);
        due("ruins", x.weakest(3), 1);
        due("the first one is highest", told("w0000;w0022;w0001;").weakest(2), 0);
        CastlesAreAssessed y = told("w0004;w0005;");
        due("not beside over the edge of a row", y.weakest(1), 3);
        due("what", x.weakest(4), -2);
        due("what", x.weakest(-1), -2);
    }

    /** 30 */
    private static void mean() {
        CastlesAreAssessed x = told("w0700;w4001;");
        due("above", x.mean(0), 27);
        due("below", x.mean(1), 2);
        x.razes(0);
        due("above", x.mean(0), 20);
        due("below", x.mean(1), 1);
        x.razes(1);
        due("of none", x.mean(0), 0);
        due("of none", x.mean(1), 1);
        CastlesAreAssessed y = told("w1000;w4001;w0002;w0003;");
        due("in lowest terms", y.mean(0), 15);
        due("in lowest terms", y.mean(1), 2);
        CastlesAreAssessed z = told("w0000;w0001;");
        due("nothing", z.mean(0), 0);
        due("over 1", z.mean(1), 1);
        due("part", z.mean(2), TOP + 2);
        due("part", z.mean(-1), TOP + 2);
    }

    /** 31 */
    private static void low() {
        int[] next = {0, 0, 9, 8, 7, 6, 5, 4, 3, 2, 1, 0, 0};
        CastlesAreAssessed x = new CastlesAreAssessed();
        for (int hour = 0; hour <= 12; hour++) {
            due("low at " + hour, x.low(), next[hour]);
            x.hours(1);
        }
    }

    /** 32 */
    private static void sand() {
        CastlesAreAssessed x = told(MINT);
        due("sand", x.sand(), 7);
        x.work(0, 0, 22);
        due("the last of all", x.sand(), 7);
        x.razes(0);
        due("sand", x.sand(), 3);
        x.razes(1);
        due("nothing stands", x.sand(), 0);
        due("never in 60", told(CORNER).sand(), -9);
        due("behind 60", told("h05;" + CORNER + "x03;").sand(), 60);
        due("not behind 60", told("h05;" + CORNER + "x02;").sand(), -9);
        due("new", new CastlesAreAssessed().sand(), 0);
    }

    /** 33 */
    private static void mended() {
        CastlesAreAssessed x = told(MINT + "x02;w0901;r1;");
        due("two hours more", x.mended(0, 12), 14);
        due("one hour more", x.mended(0, 6), 7);
        due("not yet", x.mended(0, 5), 0);
        due("not yet", x.mended(0, 0), 0);
        due("gone", x.mended(1, 60), 0);
        due("in mind", x.workOf(0, 3), 2);
        due("no such", x.mended(2, -1), 1000000001);
        due("no such", x.mended(-1, 0), 1000000001);
        due("below", x.mended(0, -1), 1000000004);
        due("above", x.mended(0, 61), 1000000006);
        due("refusals", x.count(11) * 100 + x.count(14) * 10 + x.count(16), 211);
    }

    /** 34 */
    private static void pairs() {
        CastlesAreAssessed x = told("w0000;w0001;w0006;w0024;w0004;w0005;");
        due("0 1, 1 6, 0 5, 5 6", x.pairs(0), 4);
        due("0 to 24", x.pairs(1), 8);
        due("free", x.pairs(2), ALL_CELLS - 1 - 2 - 64 - (1 << 24) - 16 - 32);
        x.razes(3);
        due("5 to 4", x.pairs(1), 5);
        CastlesAreAssessed y = told("w0012;");
        due("fewer than two", y.pairs(1), 0);
        due("fewer than two", y.pairs(0), 0);
        y.razes(0);
        due("all free", y.pairs(2), ALL_CELLS);
        due("what", y.pairs(3), -2);
        due("what", y.pairs(-1), -2);
    }

    /** 35 */
    private static void turrets() {
        CastlesAreAssessed x = told("w0000;w1001;w1002;w3003;w5004;w4005;");
        int[] numbers = {1, 2, 0, 1, 1, 1};
        for (int kind = 0; kind < 6; kind++) {
            due("of kind " + kind, x.turrets(kind), numbers[kind]);
        }
        x.razes(1);
        due("one gone", x.turrets(1), 1);
        due("kind", x.turrets(6), -2);
        due("kind", x.turrets(-1), -2);
    }

    /** 36 */
    private static void row() {
        CastlesAreAssessed x = new CastlesAreAssessed();
        due("row", x.row(0), 1);
        due("row", x.row(99), 2);
        due("below", x.row(-1), -4);
        due("above", x.row(100), -6);
        for (int i = 3; i <= 12; i++) {
            due("row", x.row(7), i);
        }
        due("full", x.row(7), -6);
        due("full, below", x.row(-1), -4);
        due("in the row", x.count(7), 12);
    }

    /** 37 */
    private static void judge() {
        CastlesAreAssessed x = told("w0700;w4001;w5902;");
        due("nothing told", x.judge(), -9);
        rows(x, 7, 20, 94);
        due("all so", x.judge(), -9);
        due("the row has none then", x.count(7), 0);
        rows(x, 7, 21, 9);
        due("the first that is not so", x.judge(), 1);
        due("the row has none then", x.count(7), 0);
        rows(x, 7, 20, 94, 0);
        due("none there", x.judge(), 3);
        x.razes(1);
        rows(x, 7, 20);
        due("of one gone too", x.judge(), -9);
        CastlesAreAssessed y = new CastlesAreAssessed();
        rows(y, 0);
        due("none there", y.judge(), 0);
    }

    /** 38 */
    private static void clear() {
        CastlesAreAssessed x = new CastlesAreAssessed();
        due("none", x.clear(), 0);
        rows(x, 1, 2, 3);
        due("three", x.clear(), 3);
        due("none", x.clear(), 0);
        due("row", x.row(5), 1);
    }

    /** 39: with seed 0 the draws are 0, 0, 4, 1, 0; with seed -1 the first is 5 */
    private static void lots() {
        CastlesAreAssessed x = told(MINT + "x01;");
        int[] purses = {49, 98, 105, 147, 196};
        for (int n = 1; n <= 5; n++) {
            due("purses of " + n, x.lots(n, 0, 1), purses[n - 1]);
        }
        due("none stands", x.lots(20, 0, 0), 0);
        due("a negative seed", x.lots(1, -1, 1), 7);
        due("in mind", x.workOf(0, 3) * 100 + x.count(1), 100);
        CastlesAreAssessed y = told("w3000;");
        int[] standing = {1, 2, 2, 3, 4};
        for (int n = 1; n <= 5; n++) {
            due("standing of " + n, y.lots(n, 0, 0), standing[n - 1]);
        }
        CastlesAreAssessed z = told("w3001;w3000;w3004;r0;");
        due("draws for those that stand alone: 0 0, 4 1, 0", z.lots(2, 0, 0), 3);
        due("below", x.lots(0, 0, 2), -4);
        due("above", x.lots(21, 0, 2), -6);
        due("what", x.lots(20, 0, 2), -2);
        due("what", x.lots(1, 0, -1), -2);
    }

    /** 40 and 41 */
    private static void imageAndRestore() {
        CastlesAreAssessed x = told("w4000;w0922;x12;h03;");
        due("none", x.restore(), -3);
        due("image", x.image(), 3);
        x.razes(1);
        x.hours(5);
        x.work(5, 5, 22);
        x.pays();
        x.row(5);
        x.feed('p');
        due("restore", x.restore(), 3);
        due("works", x.count(0), 2);
        due("hour", x.count(1), 3);
        due("purse", x.count(2), 21);
        due("owed", x.count(3), 60 + 27);
        due("standing", x.count(4), 3);
        due("worn", x.workOf(1, 3), 4);
        due("letters stay", x.count(6), 1);
        due("the row stays", x.count(7), 1);
        due("nothing to take back", x.count(8), 0);
        due("refusals stay", x.count(13), 1);
        x.razes(0);
        due("the image stays", x.restore(), 3);
        due("standing", x.count(4), 3);
        x.hours(1);
        due("another image", x.image(), 4);
        x.hours(1);
        due("the newest", x.restore(), 4);
        x.pays();
        x.image();
        due("image leaves what can be taken back", x.count(8), 1);
    }

    /** 42 */
    private static void count() {
        CastlesAreAssessed x = told("w4000;w2022;r0;h03;");
        x.row(4);
        x.row(4);
        x.feed('p');
        x.fixes(1);
        long[] want = {2, 3, 0, 5, 2, (31 << 20) + (31 << 15), 1, 2, 1, -9, -9, 0, 0, 0, 0, 0, 0, -9};
        for (int what = 0; what < want.length; what++) {
            due("count " + what, x.count(what), want[what]);
        }
        due("count", x.count(-1), -9);
        due("count", x.count(LEAST), -9);
        due("count", x.count(MOST), -9);
        x.at(25);
        x.at(99);
        x.turrets(6);
        x.back();
        x.back();
        x.row(-1);
        x.row(100);
        x.row(100);
        x.row(100);
        int[] refusals = {2, 1, 1, 1, 0, 3};
        for (int i = 0; i < 6; i++) {
            due("refusals " + (i + 1), x.count(11 + i), refusals[i]);
        }
    }

    /** Each refusal of the document: the one that is due is one more, the others stay. */
    private static void refusalsAreCounted() {
        CastlesAreAssessed x = told("w4000;w0022;r1;");
        String[] calls = {"feed -1 4", "feed 256 6", "workOf 2 0 1", "workOf 0 9 2", "at 25 1", "work 6 0 0 2",
            "work 0 -1 0 4", "work 0 10 0 6", "work 0 0 25 1", "work 0 0 0 3", "razes 2 1", "razes 1 3", "fixes 2 1",
            "fixes 1 3", "hours 0 4", "hours 61 6", "level -1 4", "level 61 6", "wet -1 4", "wet 61 6", "then -1 0 4",
            "then 61 0 6", "then 0 3 2", "floods 25 1", "dry 25 1", "driest 2 2", "falls 2 1", "keep 25 1 0 1",
            "keep 0 0 0 4", "keep 0 25 0 6", "keep 0 1 2 2", "best 6 0 0 0 2", "best 0 0 0 2 2", "best 0 -1 0 0 4",
            "best 0 0 -1 0 4", "best 0 10 0 0 6", "best 0 0 61 0 6", "dredge -1 4", "dredge 61 6", "round -2 4",
            "assessed 4 2", "whatWas 2 0 1", "whatWas 0 2 2", "two 0 2 1", "two 0 0 1", "two 0 1 3", "shares 0 0 4",
            "shares 10 0 6", "shares 1 2 2", "weakest 4 2", "pairs 3 2", "turrets 6 2", "row -1 4", "row 100 6",
            "lots 0 0 0 4", "lots 21 0 0 6", "lots 1 0 2 2", "back 3", "restore 3"};
        for (String call : calls) {
            String[] words = call.split(" ");
            int[] a = new int[words.length - 2];
            for (int i = 0; i < a.length; i++) {
                a[i] = Integer.parseInt(words[i + 1]);
            }
            int which = Integer.parseInt(words[words.length - 1]);
            int[] before = refusals(x);
            due(call, Calls.of(x, words[0], a), -which);
            before[which - 1]++;
            Check.holds(call + " is counted", java.util.Arrays.equals(before, refusals(x)));
        }
    }

    private static int[] refusals(CastlesAreAssessed x) {
        int[] numbers = new int[6];
        for (int i = 0; i < 6; i++) {
            numbers[i] = x.count(11 + i);
        }
        return numbers;
    }

    /** The refusals: nothing changes but how many there were. */
    private static void refusalsChangeNothing() {
        int[][] sets = {{-1, -1, -1, -1}, {LEAST, LEAST, LEAST, LEAST}, {MOST, MOST, MOST, MOST}};
        CastlesAreAssessed x = told("w4000;x01;w2022;h02;");
        x.row(7);
        x.pays();
        for (int[] set : sets) {
            for (String name : Calls.NAMES) {
                boolean free = Calls.arguments(name) == 0 || name.equals("round") || name.equals("falls");
                if (!free && !name.equals("count")) {
                    long answer = Calls.of(x, name, java.util.Arrays.copyOf(set, Calls.arguments(name)));
                    Check.holds(name + " is refused", answer < 0 && answer != -9 || answer > 1000000000);
                }
            }
        }
        long[] want = {2, 2, 0, 0, 3, 31 << 20, 0, 1, 1};
        for (int what = 0; what < want.length; what++) {
            due("count " + what + " behind refusals", x.count(what), want[what]);
        }
        due("worn behind refusals", x.workOf(0, 3), 1);
    }
}
