/** Promises 18 to 33: what is foretold, and images; answers reckoned by hand from parts 2 and 3 of the terms. */
public final class ForetoldTest {
    private static final int BIG = Integer.MAX_VALUE, SMALL = Integer.MIN_VALUE;
    /** One steady player at 600 who hastens by 9: 609, 618, 627 .. */
    private static final String NINE = "b0,0,0,60;ze;t60,9;";

    public static void main(String[] args) {
        withoutBand();
        ahead();
        drift();
        round();
        noticed();
        dancers();
        dancersRefused();
        countIn();
        deaf();
        inEar();
        blame();
        back();
        backRefused();
        songs();
        songsRefused();
        clapped();
        whoPushed();
        whoPushedRefused();
        night();
        nightRefused();
        images();
        nothingChanges();
        Checks.end("ForetoldTest");
    }

    private static void withoutBand() {
        BandPace x = new BandPace();
        Checks.due("18: no band", x.ahead(-2, 999), Checks.STATE);
        Checks.due("19: no band", x.drift(), Checks.STATE);
        Checks.due("20: no band", x.round(9), Checks.STATE);
        Checks.due("21: no band", x.noticed(0, -1), Checks.STATE);
        Checks.due("22: no band", x.dancers(9, 0, 1, 0, 0), Checks.STATE);
        Checks.due("23: no band", x.countIn(-1, 600), Checks.STATE);
        Checks.due("24: no band", x.deaf(2), Checks.STATE);
        Checks.due("25: no band", x.inEar(2), Checks.STATE);
        Checks.due("26: no band", x.blame(0), Checks.BAD);
        Checks.due("27: no band", x.back(0, 1, 1, 600), Checks.BAD);
        Checks.due("29: no band", x.clapped(0, 0), Checks.STATE);
        Checks.due("30: no band", x.whoPushed(9, 0, 0), Checks.STATE);
        Checks.due("31: no band", x.night(-1, 0, 0), Checks.STATE);
    }

    private static void ahead() {
        BandPace x = Checks.told(Checks.FIVE);
        int[] band = {604, 608, 615, 614, 619, 620};
        int[] leader = {600, 607, 612, 616, 619, 619};
        for (int n = 0; n <= 5; n++) {
            Checks.due("18: band ahead by " + n, x.ahead(-1, n), band[n]);
            Checks.due("18: leader ahead by " + n, x.ahead(4, n), leader[n]);
        }
        Checks.due("18: 201 bars", x.ahead(-1, 201), Checks.BAD);
        Checks.due("18: -1 bars", x.ahead(-1, -1), Checks.BAD);
        Checks.due("18: player 5", x.ahead(5, 1), Checks.BAD);
        Checks.due("18: player -2", x.ahead(-2, 1), Checks.BAD);
        BandPace y = Checks.told(NINE);
        Checks.due("18: 200 bars", y.ahead(0, 200), 2400);
    }

    private static void drift() {
        Checks.due("19: five", Checks.told(Checks.FIVE).drift(), 16);
        BandPace x = Checks.told("b0,9,0,60;zeq;t60,2;");
        Checks.due("19: below 0", x.drift(), -5);
        x.pace(0, 2499);
        Checks.due("19: 2500, then 2493", x.drift(), -6);
        x.bars(1);
        Checks.due("19: from now on: 2493, then 2495", x.drift(), -5);
    }

    private static void round() {
        BandPace x = Checks.told("b0,0,0,60;zeee;t60,0;");
        Checks.due("20: a song later", x.round(0), 3);
        Checks.due("20: as now", x.round(1), 0);
        Checks.due("20: what 2", x.round(2), Checks.BAD);
        Checks.due("20: what -1", x.round(-1), Checks.BAD);
        BandPace y = Checks.told(NINE);
        Checks.due("20: none", y.round(0), Checks.NONE);
        Checks.due("20: none", y.round(1), Checks.NONE);
        y.pace(0, 2450);
        Checks.due("20: 2500 behind six", y.round(0), 7);
        Checks.due("20: 2500 behind six", y.round(1), 6);
        BandPace z = Checks.told("b0,0,0,60;ze;t60,1;");
        z.pace(0, 2301);
        Checks.due("20: the last that counts", z.round(0), 200);
        Checks.due("20: the last that counts", z.round(1), 199);
        z.pace(0, 2300);
        Checks.due("20: one too late", z.round(0), Checks.NONE);
        BandPace v = Checks.told("b0,0,0,60;zee;t60,1;");
        v.pace(0, 2499);
        Checks.due("20: the bar to come, too", v.round(0), 3);
        Checks.due("20: the bar to come, too", v.round(1), 1);
        BandPace five = Checks.told("b0,0,0,60;ze;t60,0;t61,0;t62,0;k60,0;l60,0;");
        Checks.due("20: all of five", five.round(0), 1);
        BandPace u = Checks.told("b0,0,0,60;ze;t60,0;t70,0;w0,1,5;w1,0,5;");
        Checks.due("20: 650 and 650", u.round(0), 2);
        Checks.due("20: the band alone would be as now", u.round(1), 1);
    }

    private static void noticed() {
        BandPace x = Checks.told("b20,10,0,60;zeefq;t60,0;");
        Checks.due("21: at the fill", x.noticed(3, 19), 2);
        Checks.due("21: 20 is not more than 20", x.noticed(4, 20), Checks.NONE);
        Checks.due("21: not yet", x.noticed(2, 0), Checks.NONE);
        x.bars(3);
        Checks.due("21: slower, too", x.noticed(1, 9), 0);
        Checks.due("21: 10 is not more than 10", x.noticed(1, 10), Checks.NONE);
        Checks.due("21: next song", x.noticed(200, 10), 3);
        Checks.due("21: 0 bars", x.noticed(0, 0), Checks.BAD);
        Checks.due("21: 201 bars", x.noticed(201, 0), Checks.BAD);
        Checks.due("21: d -1", x.noticed(1, -1), Checks.BAD);
        Checks.due("21: d 100", x.noticed(1, 100), Checks.BAD);
        Checks.due("21: d 99", x.noticed(1, 99), Checks.NONE);
    }

    private static void dancers() {
        BandPace x = Checks.told(NINE);
        Checks.fill(x, 0, 1, 600, 650, 0, 600, 601, 999, 0, 9999);
        int[] bars = {0, 1, 5, 6, 200};
        int[] who = {4, 6, 6, 7, 7};
        int[] last = {0, 1, 1, 6, 6};
        for (int k = 0; k < bars.length; k++) {
            Checks.due("22: who within " + bars[k], x.dancers(0, 0, 4, bars[k], 0), who[k]);
            Checks.due("22: the last within " + bars[k], x.dancers(0, 0, 4, bars[k], 1), last[k]);
        }
        Checks.due("22: from place 2 on", x.dancers(0, 2, 2, 0, 0), 2);
        Checks.due("22: from place 2 on", x.dancers(0, 2, 2, 1, 0), 3);
        Checks.due("22: from an odd place on", x.dancers(0, 3, 1, 0, 0), 0);
        Checks.due("22: nobody", x.dancers(0, 6, 1, 200, 0), 0);
        Checks.due("22: nobody", x.dancers(0, 6, 1, 200, 1), Checks.NONE);
        x.row(1, 2, 40);
        Checks.due("22: ten", x.dancers(1, 20, 10, 0, 0), 1023);
        x.row(7, 2, 40);
        Checks.due("22: ten, up to the end of the last row", x.dancers(7, 20, 10, 0, 0), 1023);
    }

    private static void dancersRefused() {
        BandPace x = Checks.told(NINE);
        x.row(0, 1, 8);
        Checks.due("22: row 8", x.dancers(8, 0, 1, 0, 0), Checks.BAD);
        Checks.due("22: row -1", x.dancers(-1, 0, 1, 0, 0), Checks.BAD);
        Checks.due("22: m 0", x.dancers(0, 0, 0, 0, 0), Checks.BAD);
        Checks.due("22: m 11", x.dancers(0, 0, 11, 0, 0), Checks.BAD);
        Checks.due("22: n -1", x.dancers(0, 0, 1, -1, 0), Checks.BAD);
        Checks.due("22: n 201", x.dancers(0, 0, 1, 201, 0), Checks.BAD);
        Checks.due("22: what 2", x.dancers(0, 0, 1, 0, 2), Checks.BAD);
        Checks.due("22: what -1", x.dancers(0, 0, 1, 0, -1), Checks.BAD);
        Checks.due("22: BAD ahead of NULL", x.dancers(7, 0, 0, 0, 0), Checks.BAD);
        Checks.due("22: missing", x.dancers(7, -1, 1, 0, 0), Checks.NULL);
        Checks.due("22: place -1", x.dancers(0, -1, 1, 0, 0), Checks.PLACE);
        Checks.due("22: beyond the end", x.dancers(0, 7, 1, 0, 0), Checks.PLACE);
        Checks.due("22: up to the end", x.dancers(0, 6, 1, 0, 0), 1);
        Checks.due("22: far", x.dancers(0, BIG, 10, 0, 0), Checks.PLACE);
        Checks.due("22: far below", x.dancers(0, SMALL, 10, 0, 0), Checks.PLACE);
    }

    private static void countIn() {
        BandPace x = Checks.told(NINE);
        Checks.due("23: 600 and 90", x.countIn(10, 690), 600);
        Checks.due("23: of two the least", x.countIn(10, 695), 600);
        Checks.due("23: the next", x.countIn(10, 696), 610);
        Checks.due("23: the least", x.countIn(0, 300), 400);
        Checks.due("23: the most", x.countIn(0, 2500), 990);
        Checks.due("23: 200 bars", x.countIn(200, 2500), 700);
        Checks.due("23: -1 bars", x.countIn(-1, 600), Checks.BAD);
        Checks.due("23: 201 bars", x.countIn(201, 600), Checks.BAD);
        Checks.due("23: 299", x.countIn(0, 299), Checks.BAD);
        Checks.due("23: 2501", x.countIn(0, 2501), Checks.BAD);
        BandPace y = Checks.told("b0,0,0,60;ze;t50,0;t70,0;t70,9;");
        Checks.due("23: all are to have it", y.countIn(1, 503), 500);
    }

    private static void deaf() {
        BandPace x = Checks.told("b0,0,0,60;ze;t60,0;t70,0;w0,1,5;w1,0,5;");
        Checks.due("24: -25 and 25", x.deaf(0), 1);
        Checks.due("24: -25 and 25", x.deaf(1), -25);
        x.hears(0, 1, 4);
        Checks.due("24: -25 and 20", x.deaf(0), 5);
        Checks.due("24: -25 and 20", x.deaf(1), 20);
        x.hears(1, 0, 0);
        Checks.due("24: one ear", x.deaf(0), 1);
        Checks.due("24: one ear", x.deaf(1), 0);
        x.hears(0, 1, 0);
        Checks.due("24: no ears", x.deaf(0), Checks.NONE);
        Checks.due("24: no ears", x.deaf(1), Checks.NONE);
        Checks.due("24: what 2", x.deaf(2), Checks.BAD);
        Checks.due("24: what -1", x.deaf(-1), Checks.BAD);
    }

    private static void inEar() {
        BandPace x = Checks.told("b0,0,0,60;ze;t60,8;t60,4;");
        Checks.due("25: 604 and 604, or 608 and 602", x.inEar(0), 0);
        Checks.due("25: 604 and 604", x.inEar(1), 4);
        BandPace y = Checks.told("b0,0,0,60;ze;t60,4;t60,8;");
        Checks.due("25: 602 and 608, or 604 and 604", y.inEar(0), 1);
        Checks.due("25: 604 and 604", y.inEar(1), 4);
        BandPace z = Checks.told("b0,0,0,60;ze;l60,8;t60,4;");
        Checks.due("25: 604 and 604, or 606 and 602", z.inEar(0), 0);
        Checks.due("25: of two the first", z.inEar(1), 4);
        BandPace u = Checks.told("b20,0,0,60;zf;t60,0;r60,0;");
        Checks.due("25: it leans no more", u.inEar(0), 1);
        Checks.due("25: 620 and 600", u.inEar(1), 10);
        Checks.due("25: what 2", u.inEar(2), Checks.BAD);
        Checks.due("25: what -1", u.inEar(-1), Checks.BAD);
    }

    private static void blame() {
        BandPace x = Checks.told("b6,0,0,60;zf;r60,3;t60,1;");
        Checks.due("26: 11 less 3", x.blame(0), 8);
        Checks.due("26: 11 less 7", x.blame(1), 4);
        Checks.due("26: player 2", x.blame(2), Checks.BAD);
        Checks.due("26: player -1", x.blame(-1), Checks.BAD);
        Checks.due("26: the click stays", Checks.told("b0,0,0,60;ze;k62,8;").blame(0), 4);
        Checks.due("26: a leader", Checks.told("b0,0,0,60;ze;l60,8;").blame(0), 6);
        Checks.due("26: below 0", Checks.told("b0,9,0,60;zq;d60,0;").blame(0), -18);
        Checks.due("26: it hears on", Checks.told("b0,0,0,60;ze;t60,3;t70,0;w0,1,5;").blame(0), 1);
    }

    private static void back() {
        BandPace x = Checks.told("b0,0,0,60;ze;l60,0;");
        Checks.due("27: 593", x.back(0, 9, 1, 590), 0);
        Checks.due("27: 594 or 593, to 590", x.back(0, 9, 2, 590), 1);
        Checks.due("27: 594 or 593, to 600", x.back(0, 9, 2, 600), 0);
        Checks.due("27: 591 is 9 other", x.back(0, 12, 1, 590), 0);
        Checks.due("27: 590 is 10 other than ahead of what is set", x.back(0, 13, 1, 590), Checks.NONE);
        BandPace y = Checks.told("b20,0,0,60;zfe;t60,0;k60,0;");
        Checks.due("27: 10 other, but for what is set", y.back(1, 4, 2, 600), 0);
        y.bars(1);
        Checks.due("27: 10 other at bar 1, but for what is set there", y.back(1, 1, 2, 600), 1);
        y.bars(1);
        Checks.due("27: 9 other", y.back(1, 1, 2, 600), 0);
        BandPace r = Checks.told("b20,0,0,60;zfe;r60,0;k60,0;");
        Checks.due("27: the fill is noticed", r.back(1, 4, 2, 600), Checks.NONE);
        BandPace z = Checks.told("b0,0,0,40;ze;l40,0;t60,0;t60,0;t60,0;t60,0;");
        z.pace(0, 320);
        Checks.due("27: 300 at least", z.back(0, 99, 2, 545), 1);
        BandPace u = Checks.told("b0,0,0,60;ze;k60,0;t60,0;t60,0;");
        Checks.due("27: of several the first", u.back(0, 2, 40, 600), 0);
    }

    private static void backRefused() {
        BandPace x = Checks.told("b0,0,0,60;ze;t60,0;r60,0;d60,0;k60,0;l60,0;");
        for (int p = 0; p < 5; p++) {
            Checks.due("27: of " + p, x.back(p, 1, 1, 600), p < 3 ? Checks.STATE : 0);
            Checks.due("27: BAD ahead of STATE", x.back(p, 0, 1, 600), Checks.BAD);
        }
        Checks.due("27: player 5", x.back(5, 1, 1, 600), Checks.BAD);
        Checks.due("27: player -1", x.back(-1, 1, 1, 600), Checks.BAD);
        Checks.due("27: d 0", x.back(4, 0, 1, 600), Checks.BAD);
        Checks.due("27: d 100", x.back(4, 100, 1, 600), Checks.BAD);
        Checks.due("27: d 99", x.back(4, 99, 1, 600), Checks.NONE);
        Checks.due("27: n 0", x.back(4, 1, 0, 600), Checks.BAD);
        Checks.due("27: n 41", x.back(4, 1, 41, 600), Checks.BAD);
        Checks.due("27: pace 299", x.back(4, 1, 1, 299), Checks.BAD);
        Checks.due("27: pace 2501", x.back(4, 1, 1, 2501), Checks.BAD);
        Checks.due("27: pace 300", x.back(4, 1, 1, 300), 0);
        Checks.due("27: pace 2500", x.back(4, 1, 1, 2500), 0);
    }

    private static void songs() {
        BandPace x = new BandPace();
        Checks.fill(x, 0, 2, -7, 5, 1, 9, 2501);
        ordered(x, 0, 1, 3, 8, 1, 0, 2);
        ordered(x, 0, 3, 1, 0, 0);
        ordered(x, 0, 1, 2, 4, 0, 1);
        Checks.fill(x, 1, 1, 7, 7, 7, 7, 7, 7);
        ordered(x, 1, 0, 6, 0, 0, 1, 2, 3, 4, 5);
        Checks.fill(x, 2, 1, 2500, 0, 1200, 0, 2500, 1300);
        ordered(x, 2, 0, 6, 2500, 0, 4, 5, 2, 1, 3);
        Checks.fill(x, 3, 0, 6, 5, 4, 3, 2, 1);
        ordered(x, 3, 0, 6, 5, 0, 1, 2, 3, 4, 5);
        Checks.fill(x, 4, 0, 2, 6, 4, 1, 3, 5);
        ordered(x, 4, 0, 6, 5, 1, 5, 2, 4, 0, 3);
    }

    private static void ordered(BandPace x, int row, int i, int n, int sum, int... places) {
        Checks.due("28: how much, row " + row, x.songs(row, i, n, -1), sum);
        for (int k = 0; k < places.length; k++) {
            Checks.due("28: place " + k + " of row " + row, x.songs(row, i, n, k), places[k]);
        }
    }

    private static void songsRefused() {
        BandPace x = new BandPace();
        Checks.fill(x, 0, 2, -1, 0, 2500, 2501);
        Checks.due("28: row 8", x.songs(8, 0, 1, 0), Checks.BAD);
        Checks.due("28: row -1", x.songs(-1, 0, 1, 0), Checks.BAD);
        Checks.due("28: n 0", x.songs(0, 0, 0, -1), Checks.BAD);
        Checks.due("28: n 7", x.songs(0, 0, 7, 0), Checks.BAD);
        Checks.due("28: k -2", x.songs(0, 1, 2, -2), Checks.BAD);
        Checks.due("28: k n", x.songs(0, 1, 2, 2), Checks.BAD);
        Checks.due("28: far", x.songs(0, 1, SMALL, BIG), Checks.BAD);
        Checks.due("28: missing", x.songs(1, -1, 1, 0), Checks.NULL);
        Checks.due("28: place -1", x.songs(0, -1, 1, 0), Checks.PLACE);
        Checks.due("28: beyond the end", x.songs(0, 3, 2, 0), Checks.PLACE);
        Checks.due("28: far", x.songs(0, BIG, 6, 0), Checks.PLACE);
        Checks.due("28: PLACE ahead of an item", x.songs(0, 0, 5, 0), Checks.PLACE);
        Checks.due("28: an item below 0", x.songs(0, 0, 2, 0), Checks.BAD);
        Checks.due("28: an item above 2500", x.songs(0, 2, 2, 0), Checks.BAD);
        Checks.due("28: 0 and 2500", x.songs(0, 1, 2, -1), 2500);
        Checks.due("28: items beyond the n are not looked at", x.songs(0, 2, 1, -1), 0);
        Checks.due("28: an item above 2500", x.songs(0, 2, 2, 0), Checks.BAD);
        Checks.due("28: nor are those of a call before", x.songs(0, 2, 1, 0), 0);
    }

    private static void clapped() {
        BandPace x = Checks.told("b0,0,0,60;ze;k60,0;");
        Checks.due("29: now", x.clapped(30, 0), 30);
        Checks.due("29: 615", x.clapped(30, 1), 15);
        Checks.due("29: 608", x.clapped(30, 2), 8);
        Checks.due("29: long gone", x.clapped(99, 200), 1);
        x.pace(0, 2490);
        Checks.due("29: 2500 at most", x.clapped(30, 0), 10);
        Checks.due("29: c 1", x.clapped(1, 0), 1);
        Checks.due("29: c 0", x.clapped(0, 0), Checks.BAD);
        Checks.due("29: c 100", x.clapped(100, 0), Checks.BAD);
        Checks.due("29: n -1", x.clapped(1, -1), Checks.BAD);
        Checks.due("29: n 201", x.clapped(1, 201), Checks.BAD);
    }

    private static void whoPushed() {
        BandPace x = Checks.told("b0,0,0,60;ze;t60,1;t70,2;");
        pushed(x, 1, 5, 606, 702);
        pushed(x, 2, 20, 601, 722);
        pushed(x, 0, Checks.NONE, 601, 723);
        pushed(x, 0, Checks.NONE, 601, 702);
        pushed(x, 0, Checks.NONE, 602, 703);
        pushed(x, 0, Checks.NONE, 600, 702);
        pushed(Checks.told("b0,0,0,60;zh;t60,1;t70,2;"), 3, 1, 600, 700);
        pushed(Checks.told("b0,0,0,60;ze;l60,0;"), 1, 3, 603);
        pushed(Checks.told("b0,0,0,60;ze;k60,0;"), 1, 1, 601);
        pushed(Checks.told("b0,0,0,60;ze;t60,0;t61,0;t62,0;k60,0;l60,0;"), 16, 3, 600, 610, 620, 600, 603);
        BandPace y = Checks.told("b0,0,0,60;ze;t60,0;t60,9;t60,0;");
        y.pace(1, 2499);
        y.pace(2, 2490);
        pushed(y, 2, 1, 600, 2500, 2490);
        pushed(y, 4, 10, 600, 2500, 2500);
        y.hears(0, 1, 1);
        y.bars(1);
        Checks.due("30: it hears", y.player(0, 0), 789);
    }

    private static void pushed(BandPace x, int who, int by, int... paces) {
        int[] row = new int[paces.length + 1];
        System.arraycopy(paces, 0, row, 1, paces.length);
        Checks.fill(x, 0, 1, row);
        Checks.due("30: who", x.whoPushed(0, 1, 0), who);
        Checks.due("30: by how much", x.whoPushed(0, 1, 1), by);
    }

    private static void whoPushedRefused() {
        BandPace x = Checks.told("b0,0,0,60;ze;t60,1;t70,2;");
        x.row(0, 1, 3);
        Checks.due("30: row 8", x.whoPushed(8, 0, 0), Checks.BAD);
        Checks.due("30: row -1", x.whoPushed(-1, 0, 0), Checks.BAD);
        Checks.due("30: what 2", x.whoPushed(0, 0, 2), Checks.BAD);
        Checks.due("30: what -1", x.whoPushed(7, 0, -1), Checks.BAD);
        Checks.due("30: missing", x.whoPushed(7, -1, 0), Checks.NULL);
        Checks.due("30: place -1", x.whoPushed(0, -1, 0), Checks.PLACE);
        Checks.due("30: beyond the end", x.whoPushed(0, 2, 0), Checks.PLACE);
        Checks.due("30: up to the end", x.whoPushed(0, 1, 0), 0);
        Checks.due("30: far", x.whoPushed(0, BIG, 0), Checks.PLACE);
        Checks.due("30: far below", x.whoPushed(0, SMALL, 0), Checks.PLACE);
    }

    /** By 1 X becomes 16807, 282475249, 1622650073, 984943658, 1144108930, 470211272: 0, 2, 1, 1, -2, 0 more. */
    private static void night() {
        BandPace x = Checks.told("b0,0,0,60;ze;t60,0;");
        int[] want = {600, 600, 602, 603, 604, 602, 602};
        for (int n = 0; n < want.length; n++) {
            Checks.due("31: a night of " + n, x.night(n, 1, 0), want[n]);
            Checks.due("31: a night of " + n, x.night(n, 1, 1), 0);
        }
        BandPace two = Checks.told("b0,0,0,60;ze;t60,0;t60,0;w0,1,5;");
        // ahead of bar 0: 600, 602; behind: 601, 602; ahead of bar 1: 602, 603; behind: 602, 603
        Checks.due("31: each in order", two.night(2, 1, 0), (602 + 603) / 2);
        BandPace nine = Checks.told(NINE);
        Checks.due("31: draws, too", nine.night(6, 1, 1), 3);
        Checks.due("31: draws, too", nine.night(6, 1, 0), 656);
        Checks.due("31: again the same", nine.night(6, 1, 1), 3);
        BandPace low = Checks.told("b0,0,0,60;ze;t60,1;");
        low.pace(0, 300);
        Checks.due("31: 300 at least ahead of the bar", low.night(1, 5, 0), 301);
        BandPace fill = Checks.told("b20,20,0,60;zfeq;t60,0;");
        Checks.due("31: quicker and slower", fill.night(100, 999999, 1), 67);
    }

    private static void nightRefused() {
        BandPace x = Checks.told(NINE);
        Checks.due("31: n -1", x.night(-1, 1, 0), Checks.BAD);
        Checks.due("31: n 101", x.night(101, 1, 0), Checks.BAD);
        Checks.due("31: seed 0", x.night(1, 0, 0), Checks.BAD);
        Checks.due("31: seed 1000000", x.night(1, 1000000, 0), Checks.BAD);
        Checks.due("31: what 2", x.night(1, 1, 2), Checks.BAD);
        Checks.due("31: what -1", x.night(1, 1, -1), Checks.BAD);
        Checks.due("31: seed 999999 at n 0", x.night(0, 999999, 0), 600);
    }

    private static void images() {
        BandPace x = new BandPace();
        Checks.due("32: BAD ahead of STATE", x.image(2), Checks.BAD);
        Checks.due("32: image -1", x.image(-1), Checks.BAD);
        Checks.due("32: no band", x.image(0), Checks.STATE);
        Checks.due("33: BAD ahead of STATE", x.restore(2), Checks.BAD);
        Checks.due("33: image -1", x.restore(-1), Checks.BAD);
        Checks.due("33: none was kept", x.restore(1), Checks.STATE);
        Checks.read(x, Checks.FIVE);
        x.bars(2);
        x.click(70);
        Checks.due("32: kept", x.image(1), 1);
        Checks.due("32: acts stay", x.count(7), 3);
        Checks.due("33: the other was not", x.restore(0), Checks.STATE);
        Checks.read(x, "b1,1,1,50;zq;d40,1;");
        x.image(0);
        x.bars(1);
        x.row(3, 1, 1);
        x.feed('b');
        Checks.due("33: as it was", x.restore(1), 1);
        Checks.paces("33: as it was", x, 614, 622, 611, 620, 612);
        int[] want = {1, 5, 5, 2, 2, 615, 70, 0, 1};
        for (int what = 0; what <= 8; what++) {
            Checks.due("33: count(" + what + ")", x.count(what), want[what]);
        }
        Checks.due("33: nothing to undo", x.undo(), Checks.STATE);
        Checks.due("33: an ear", x.ear(2, 3), 3);
        Checks.due("33: a lean at the quiet bar", x.player(2, 2), -8);
        x.bars(5);
        Checks.due("33: again", x.restore(1), 1);
        Checks.due("33: again", x.count(5), 615);
        Checks.due("33: the other one", x.restore(0), 1);
        Checks.due("33: the other one", x.kind(0), 3);
        Checks.due("33: the other one", x.count(5), 400);
    }

    private static void nothingChanges() {
        BandPace x = Checks.told(Checks.FIVE);
        x.bars(2);
        Checks.fill(x, 0, 1, 1, 2, 3, 4, 5, 6);
        x.ahead(0, 200);
        x.drift();
        x.round(0);
        x.noticed(200, 99);
        x.dancers(0, 0, 3, 200, 0);
        x.countIn(200, 600);
        x.deaf(0);
        x.inEar(0);
        x.blame(1);
        x.back(4, 9, 40, 600);
        x.songs(0, 0, 6, 0);
        x.clapped(99, 200);
        x.whoPushed(0, 0, 0);
        x.night(100, 77, 0);
        x.image(0);
        Checks.paces("foretold", x, 614, 622, 611, 620, 612);
        int[] want = {1, 5, 5, 2, 2, 615, 62, 2, 0};
        for (int what = 0; what <= 8; what++) {
            Checks.due("foretold: count(" + what + ")", x.count(what), want[what]);
        }
        Checks.due("foretold: kind", x.kind(0), 1);
        Checks.due("foretold: haste", x.player(1, 1), 2);
        Checks.due("foretold: ear", x.ear(0, 1), 5);
        Checks.due("foretold: the next bar", x.bars(1), 614);
        Checks.due("foretold: a bar undone", x.undo(), 2);
    }
}
