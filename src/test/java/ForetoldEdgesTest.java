/** Promises 18 to 33 at their edges; answers reckoned by hand from parts 2 and 3 of the terms. */
public final class ForetoldEdgesTest {
    private static final int BIG = Edges.BIG, SMALL = Edges.SMALL;
    private static final Edges.Start FULL = Edges::full, BARE = Edges::bare;
    private static final Edges.Start STILL = Edges.with(Edges.STILL), NINE = Edges.with(Edges.NINE);
    /** What is BAD where a band stands, too: for arguments that are never looked at without one. */
    private static final int[] WRONG = {-2, -1, 0, 1, 2, 201, BIG, SMALL};

    public static void main(String[] args) {
        withoutBand();
        ahead();
        drift();
        round();
        noticed();
        noticedMoreThan();
        dancers();
        dancersPlaces();
        dancersFallOut();
        countIn();
        deaf();
        inEar();
        blame();
        back();
        backKinds();
        backNobodyNotices();
        backBar();
        songs();
        songsPlaces();
        songsItems();
        songsOrder();
        clapped();
        whoPushed();
        whoPushedBy();
        night();
        nightDraws();
        images();
        nothingIsLeft();
        Checks.end("ForetoldEdgesTest");
    }

    /** STATE is told ahead of BAD, and of NULL, PLACE: rows 2, 5 are missing, row 3 has no place. */
    private static void withoutBand() {
        Edges.refused("19: no band", BARE, x -> x.drift(), Checks.STATE);
        for (int v : WRONG) {
            state("18: player " + v, x -> x.ahead(v, 0));
            state("18: n " + v, x -> x.ahead(-1, v));
            state("20: what " + v, x -> x.round(v));
            state("21: n " + v, x -> x.noticed(v, 0));
            state("21: d " + v, x -> x.noticed(1, v));
            state("22: row " + v, x -> x.dancers(v, 0, 1, 0, 0));
            state("22: i " + v, x -> x.dancers(3, v, 1, 0, 0));
            state("22: m " + v, x -> x.dancers(0, 0, v, 0, 0));
            state("22: n " + v, x -> x.dancers(0, 0, 1, v, 0));
            state("22: what " + v, x -> x.dancers(0, 0, 1, 0, v));
            state("23: n " + v, x -> x.countIn(v, 600));
            state("23: pace " + v, x -> x.countIn(0, v));
            state("24: what " + v, x -> x.deaf(v));
            state("25: what " + v, x -> x.inEar(v));
            state("29: c " + v, x -> x.clapped(v, 1));
            state("29: n " + v, x -> x.clapped(1, v));
            state("30: row " + v, x -> x.whoPushed(v, 0, 0));
            state("30: i " + v, x -> x.whoPushed(3, v, 0));
            state("30: what " + v, x -> x.whoPushed(0, 0, v));
            state("31: n " + v, x -> x.night(v, 1, 0));
            state("31: seed " + v, x -> x.night(1, v, 0));
            state("31: what " + v, x -> x.night(1, 1, v));
            Edges.refused("26: no band, player " + v, BARE, x -> x.blame(v), Checks.BAD);
            Edges.refused("27: no band, player " + v, BARE, x -> x.back(v, 1, 1, 600), Checks.BAD);
        }
    }

    private static void state(String what, Edges.Call call) {
        Edges.refused(what + ", no band", BARE, call, Checks.STATE);
    }

    private static void ahead() {
        Edges.range("18: player", FULL, (x, v) -> x.ahead(v, 1), -1, 4);
        Edges.range("18: n of a player", FULL, (x, v) -> x.ahead(4, v), 0, 200);
        Edges.range("18: n of the band", FULL, (x, v) -> x.ahead(-1, v), 0, 200);
        Edges.range("18: player of one", STILL, (x, v) -> x.ahead(v, 1), -1, 0);
        Edges.foretold("18: now", NINE, x -> x.ahead(0, 0), 600);
        Edges.foretold("18: the band now", NINE, x -> x.ahead(-1, 0), 600);
        Edges.foretold("18: behind 199", NINE, x -> x.ahead(0, 199), 600 + 9 * 199);
        Edges.foretold("18: behind 200", NINE, x -> x.ahead(0, 200), 2400);
        Edges.foretold("18: the band behind 200", NINE, x -> x.ahead(-1, 200), 2400);
        Edges.foretold("18: 2500 at most", of(Edges.NINE, 701), x -> x.ahead(-1, 200), 2500);
        Edges.foretold("18: five", Edges.with(Checks.FIVE), x -> x.ahead(-1, 5), 620);
    }

    /** A band of whom the first has another pace. */
    private static Edges.Start of(String text, int pace) {
        return x -> {
            Edges.with(text).on(x);
            x.pace(0, pace);
        };
    }

    private static void drift() {
        Edges.foretold("19: a song of one", NINE, x -> x.drift(), 9);
        Edges.foretold("19: a song of twelve", Edges.with("b0,0,0,60;zeeeeeeeeeeee;t60,9;"), x -> x.drift(), 108);
        Edges.foretold("19: no quicker than 2500", of(Edges.NINE, 2495), x -> x.drift(), 5);
        Edges.foretold("19: at 2500", of(Edges.NINE, 2500), x -> x.drift(), 0);
        Edges.foretold("19: below 0", Edges.with("b0,20,0,60;zq;d60,0;"), x -> x.drift(), -40);
        Edges.foretold("19: no slower than 300", of("b0,20,0,60;zq;d60,0;", 310), x -> x.drift(), -10);
    }

    /** By 1 a bar up to 2500, which is come to behind as many bars as there are between. */
    private static void round() {
        Edges.range("20: what", FULL, (x, v) -> x.round(v), 0, 1);
        String one = "b0,0,0,60;ze;t60,1;";
        Edges.foretold("20: the fewest", STILL, x -> x.round(0), 1);
        Edges.foretold("20: 0 is now", STILL, x -> x.round(1), 0);
        Edges.foretold("20: 200 bars", of(one, 2301), x -> x.round(0), 200);
        Edges.foretold("20: as behind 199", of(one, 2301), x -> x.round(1), 199);
        Edges.foretold("20: 201 bars", of(one, 2300), x -> x.round(0), Checks.NONE);
        Edges.foretold("20: 201 bars", of(one, 2300), x -> x.round(1), Checks.NONE);
        String twelve = "b0,0,0,60;zeeeeeeeeeeee;t60,1;";
        Edges.foretold("20: a song later, 200", of(twelve, 2312), x -> x.round(0), 200);
        Edges.foretold("20: a song later, 188", of(twelve, 2312), x -> x.round(1), 188);
        Edges.foretold("20: a song later, 201", of(twelve, 2311), x -> x.round(0), Checks.NONE);
        // of five all must be as they were: the last comes to 2500 behind six, the others stay
        String five = "b0,0,0,60;ze;t60,0;t61,0;t62,0;t63,0;t60,9;";
        Edges.Start last = x -> {
            Edges.with(five).on(x);
            x.pace(4, 2450);
        };
        Edges.foretold("20: the last of five", last, x -> x.round(0), 7);
        Edges.foretold("20: the last of five", last, x -> x.round(1), 6);
    }

    private static void noticed() {
        Edges.range("21: n", FULL, (x, v) -> x.noticed(v, 0), 1, 200);
        Edges.range("21: d", FULL, (x, v) -> x.noticed(1, v), 0, 99);
        // one is quicker by 1, one slower by 1 each bar, till the first comes to 2500: then the band is slower
        String against = "b0,1,0,60;zq;t60,2;t70,0;";
        Edges.foretold("21: the last of 199", of(against, 2302), x -> x.noticed(199, 0), 198);
        Edges.foretold("21: 3001 and 3000 by two are not other", of(against, 2301), x -> x.noticed(200, 0), Checks.NONE);
        Edges.Start even = x -> {
            of(against, 2301).on(x);
            x.pace(1, 701);
        };
        Edges.foretold("21: the last of 200", even, x -> x.noticed(200, 0), 199);
        Edges.foretold("21: not within 199", even, x -> x.noticed(199, 0), Checks.NONE);
        Edges.Start later = x -> {
            of(against, 2300).on(x);
            x.pace(1, 700);
        };
        Edges.foretold("21: the 201st", later, x -> x.noticed(200, 0), Checks.NONE);
        Edges.foretold("21: the next one", NINE, x -> x.noticed(1, 0), 0);
    }

    private static void noticedMoreThan() {
        Edges.foretold("21: 9 is more than 8", NINE, x -> x.noticed(200, 8), 0);
        Edges.foretold("21: 9 is not more than 9", NINE, x -> x.noticed(200, 9), Checks.NONE);
        Edges.foretold("21: not other at all", STILL, x -> x.noticed(200, 0), Checks.NONE);
        String slower = "b0,5,0,60;zeq;d60,0;";
        Edges.foretold("21: 10 slower is more than 9", Edges.with(slower), x -> x.noticed(2, 9), 1);
        Edges.foretold("21: 10 slower is not more than 10", Edges.with(slower), x -> x.noticed(2, 10), Checks.NONE);
        Edges.foretold("21: bar 1 is not the first of one", Edges.with(slower), x -> x.noticed(1, 9), Checks.NONE);
        String clicked = "b0,0,0,60;ze;k60,0;";
        Edges.foretold("21: 100 is more than 99", of(clicked, 800), x -> x.noticed(1, 99), 0);
        Edges.foretold("21: 99 is not", of(clicked, 798), x -> x.noticed(1, 99), Checks.NONE);
    }

    private static void dancers() {
        Edges.Start eight = eightRowsOf(Edges.NINE, 2);
        Edges.range("22: ROW", eight, (x, v) -> x.dancers(v, 0, 1, 0, 0), 0, 7);
        Edges.range("22: m", FULL, (x, v) -> x.dancers(7, 0, v, 0, 0), 1, 10);
        Edges.range("22: n", FULL, (x, v) -> x.dancers(0, 0, 1, v, 0), 0, 200);
        Edges.range("22: what", FULL, (x, v) -> x.dancers(0, 0, 1, 0, v), 0, 1);
        Edges.refused("22: missing", FULL, x -> x.dancers(2, 0, 1, 0, 0), Checks.NULL);
        Edges.refused("22: NULL ahead of PLACE", FULL, x -> x.dancers(2, -1, 1, 0, 0), Checks.NULL);
        Edges.refused("22: m ahead of NULL", FULL, x -> x.dancers(2, 0, 0, 0, 0), Checks.BAD);
        Edges.refused("22: n ahead of NULL", FULL, x -> x.dancers(2, 0, 1, 201, 0), Checks.BAD);
        Edges.refused("22: what ahead of NULL", FULL, x -> x.dancers(2, 0, 1, 0, 2), Checks.BAD);
        Edges.refused("22: m ahead of PLACE", FULL, x -> x.dancers(0, -1, 11, 0, 0), Checks.BAD);
        Edges.refused("22: n ahead of PLACE", FULL, x -> x.dancers(0, -1, 1, -1, 0), Checks.BAD);
        Edges.refused("22: what ahead of PLACE", FULL, x -> x.dancers(0, -1, 1, 0, -1), Checks.BAD);
    }

    private static Edges.Start eightRowsOf(String text, int items) {
        return x -> {
            Edges.with(text).on(x);
            for (int row = 0; row < 8; row++) {
                x.row(row, 1, items);
            }
            x.row(0, 1, -1);
        };
    }

    /** Row 0 has six items, row 7 has 40: a dancer takes two. */
    private static void dancersPlaces() {
        Edges.foretold("22: three of six items", STILL, x -> x.dancers(0, 0, 3, 0, 0), 5);
        Edges.foretold("22: the last two", STILL, x -> x.dancers(0, 4, 1, 0, 0), 1);
        Edges.foretold("22: ten up to the end", STILL, x -> x.dancers(7, 20, 10, 0, 0), 511);
        Edges.refused("22: three from 1 on", STILL, x -> x.dancers(0, 1, 3, 0, 0), Checks.PLACE);
        Edges.refused("22: four of six items", STILL, x -> x.dancers(0, 0, 4, 0, 0), Checks.PLACE);
        Edges.refused("22: one from the last item on", STILL, x -> x.dancers(0, 5, 1, 0, 0), Checks.PLACE);
        Edges.refused("22: one from the end on", STILL, x -> x.dancers(0, 6, 1, 0, 0), Checks.PLACE);
        Edges.refused("22: place -1", STILL, x -> x.dancers(0, -1, 1, 0, 0), Checks.PLACE);
        Edges.refused("22: ten beyond the end", STILL, x -> x.dancers(7, 21, 10, 0, 0), Checks.PLACE);
        Edges.refused("22: no items", STILL, x -> x.dancers(3, 0, 1, 0, 0), Checks.PLACE);
        Edges.refused("22: far", STILL, x -> x.dancers(7, BIG, 10, 0, 0), Checks.PLACE);
        Edges.refused("22: far below", STILL, x -> x.dancers(7, SMALL, 10, 0, 0), Checks.PLACE);
    }

    private static void dancersFallOut() {
        bears(600, 600, 0, 0, Checks.NONE);
        bears(601, 700, 0, 1, 0);
        bears(500, 599, 0, 1, 0);
        bears(700, 500, 0, 1, 0);
        bears(600, 609, 1, 0, Checks.NONE);
        bears(600, 608, 1, 1, 1);
        bears(600, 608, 0, 0, Checks.NONE);
        bears(601, 700, 5, 1, 0);
        bears(0, 2399, 199, 0, Checks.NONE);
        bears(0, 2399, 200, 1, 200);
        bears(0, 2400, 200, 0, Checks.NONE);
        bears(SMALL, BIG, 200, 0, Checks.NONE);
        bears(BIG, SMALL, 200, 1, 0);
        BandPace x = Checks.told(Edges.NINE);
        Checks.fill(x, 0, 1, 0, 617, 0, 608, 0, 9999);
        Checks.due("22: two of three", x.dancers(0, 0, 3, 200, 0), 3);
        Checks.due("22: the last one of these", x.dancers(0, 0, 3, 200, 1), 2);
        Checks.due("22: the last one within 1", x.dancers(0, 0, 3, 1, 1), 1);
    }

    private static void bears(int least, int most, int n, int who, int last) {
        BandPace x = Checks.told(Edges.NINE);
        Checks.fill(x, 0, 2, least, most);
        String what = "22: " + least + " to " + most + " within " + n;
        Checks.due(what + ", who", x.dancers(0, 0, 1, n, 0), who);
        Checks.due(what + ", the last", x.dancers(0, 0, 1, n, 1), last);
    }

    private static void countIn() {
        Edges.range("23: n", FULL, (x, v) -> x.countIn(v, 600), 0, 200);
        Edges.range("23: PACE", FULL, (x, v) -> x.countIn(1, v), 300, 2500);
        int[][] nearest = {{300, 400}, {400, 400}, {405, 400}, {406, 410}, {415, 410}, {604, 600}, {605, 600},
            {606, 610}, {985, 980}, {986, 990}, {990, 990}, {2500, 990}};
        for (int[] n : nearest) {
            Edges.foretold("23: nearest to " + n[0], STILL, x -> x.countIn(0, n[0]), n[1]);
            Edges.foretold("23: nearest to " + n[0] + " behind 200", STILL, x -> x.countIn(200, n[0]), n[1]);
        }
        Edges.foretold("23: 2500 behind 200", NINE, x -> x.countIn(200, 2500), 700);
        Edges.foretold("23: 2491 behind 199", NINE, x -> x.countIn(199, 2491), 700);
        Edges.foretold("23: all that are quicker come to 2500", NINE, x -> x.countIn(200, 2499), 700);
        Edges.foretold("23: all come to 300", Edges.with("b0,20,0,60;zq;d60,0;"), x -> x.countIn(200, 300), 400);
    }

    private static void deaf() {
        Edges.range("24: what", FULL, (x, v) -> x.deaf(v), 0, 1);
        Edges.foretold("24: no ears", STILL, x -> x.deaf(0), Checks.NONE);
        Edges.foretold("24: no ears", STILL, x -> x.deaf(1), Checks.NONE);
        String five = "b0,0,0,60;ze;t60,0;t60,0;t60,0;t60,0;t60,0;";
        for (int i = 0; i < 5; i++) {
            for (int j = 0; j < 5; j++) {
                if (i != j) {
                    String ear = "w" + i + "," + j + ",5;";
                    Edges.foretold("24: the only ear, " + ear, Edges.with(five + ear), x -> x.deaf(0), number(ear));
                    Edges.foretold("24: DRIFT without it, " + ear, Edges.with(five + ear), x -> x.deaf(1), 0);
                }
            }
        }
        Edges.foretold("24: of several the first, I first", Edges.with(five + "w2,0,5;w1,4,5;w1,3,5;"), x -> x.deaf(0), 8);
        Edges.Start unheard = x -> {
            Edges.with(five + "w0,1,5;").on(x);
            x.hears(0, 1, 0);
        };
        Edges.foretold("24: by 0 is no ear", unheard, x -> x.deaf(0), Checks.NONE);
        Edges.foretold("24: by 0 is no ear", unheard, x -> x.deaf(1), Checks.NONE);
        // without the ear of 0 the band is 25 slower, without that of 1 it is 25 quicker
        String mutual = "b0,0,0,60;ze;t60,0;t70,0;w0,1,5;w1,0,5;";
        Edges.foretold("24: as near from below", Edges.with(mutual), x -> x.deaf(0), 1);
        Edges.foretold("24: below 0", Edges.with(mutual), x -> x.deaf(1), -25);
    }

    private static int number(String ear) {
        return 5 * (ear.charAt(1) - '0') + ear.charAt(3) - '0';
    }

    private static void inEar() {
        Edges.range("25: what", FULL, (x, v) -> x.inEar(v), 0, 1);
        Edges.foretold("25: one player", STILL, x -> x.inEar(0), 0);
        Edges.foretold("25: one player", NINE, x -> x.inEar(1), 5);
        String five = "b0,0,0,60;ze;t60,0;t60,0;t60,0;t60,0;t60,0;";
        Edges.foretold("25: of several the first", Edges.with(five), x -> x.inEar(0), 0);
        Edges.Start last = Edges.with("b0,0,0,60;ze;t60,0;t60,4;t60,0;t60,0;t60,9;");
        Edges.foretold("25: the last of five", last, x -> x.inEar(0), 4);
        Edges.foretold("25: 3009 by five", last, x -> x.inEar(1), 1);
        // who is at 580 comes to 590 by a click, who is at 620 to 610: the band is 5 quicker, or 5 slower
        Edges.Start slowFirst = Edges.with("b0,0,0,60;ze;t58,0;t62,0;");
        Edges.Start quickFirst = Edges.with("b0,0,0,60;ze;t62,0;t58,0;");
        Edges.foretold("25: as near from above", slowFirst, x -> x.inEar(0), 0);
        Edges.foretold("25: as near from above", slowFirst, x -> x.inEar(1), 5);
        Edges.foretold("25: as near from below", quickFirst, x -> x.inEar(0), 0);
        Edges.foretold("25: as near from below", quickFirst, x -> x.inEar(1), -5);
    }

    private static void blame() {
        Edges.range("26: player", FULL, (x, v) -> x.blame(v), 0, 4);
        Edges.range("26: player of one", STILL, (x, v) -> x.blame(v), 0, 0);
        Edges.foretold("26: none", STILL, x -> x.blame(0), 0);
        Edges.Start both = Edges.with("b0,0,0,60;ze;t60,4;t60,8;");
        Edges.foretold("26: 6 less 4", both, x -> x.blame(0), 2);
        Edges.foretold("26: 6 less 2", both, x -> x.blame(1), 4);
        Edges.foretold("26: all of it", NINE, x -> x.blame(0), 9);
        Edges.foretold("26: 2500 either way", of("b20,0,0,60;zf;r60,9;", 2500), x -> x.blame(0), 0);
        Edges.foretold("26: not at a held one", Edges.with("b9,9,9,60;zh;r60,9;"), x -> x.blame(0), 0);
        Edges.foretold("26: below 0", Edges.with("b0,20,0,60;zq;d60,9;"), x -> x.blame(0), -31);
    }

    /** Players 3 and 4 have a click. */
    private static void back() {
        Edges.range("27: d", FULL, (x, v) -> x.back(3, v, 1, 600), 1, 99);
        Edges.range("27: n", FULL, (x, v) -> x.back(3, 1, v, 600), 1, 40);
        Edges.range("27: PACE", FULL, (x, v) -> x.back(4, 1, 1, v), 300, 2500);
        for (int p : new int[]{-1, 5, BIG, SMALL}) {
            Edges.refused("27: player " + p, FULL, x -> x.back(p, 1, 1, 600), Checks.BAD);
        }
        for (int p = 0; p < 3; p++) {
            int one = p;
            Edges.refused("27: d ahead of STATE", FULL, x -> x.back(one, 0, 1, 600), Checks.BAD);
            Edges.refused("27: d ahead of STATE", FULL, x -> x.back(one, 100, 1, 600), Checks.BAD);
            Edges.refused("27: n ahead of STATE", FULL, x -> x.back(one, 1, 0, 600), Checks.BAD);
            Edges.refused("27: n ahead of STATE", FULL, x -> x.back(one, 1, 41, 600), Checks.BAD);
            Edges.refused("27: PACE ahead of STATE", FULL, x -> x.back(one, 1, 1, 299), Checks.BAD);
            Edges.refused("27: PACE ahead of STATE", FULL, x -> x.back(one, 1, 1, 2501), Checks.BAD);
        }
    }

    private static void backKinds() {
        for (int p = 0; p < 3; p++) {
            int one = p;
            Edges.refused("27: neither, " + p, FULL, x -> x.back(one, 1, 1, 600), Checks.STATE);
        }
        String five = "b0,0,0,60;ze;t60,0;r60,0;d60,0;k60,0;l60,0;";
        Edges.foretold("27: one with a click", Edges.with(five), x -> x.back(3, 1, 1, 600), 0);
        Edges.foretold("27: a leader", Edges.with(five), x -> x.back(4, 1, 1, 600), 0);
    }

    /** 9 other is not more than 9; what is set counts. */
    private static void backNobodyNotices() {
        String leader = "b0,0,0,60;ze;l60,0;";
        String clicked = "b0,0,0,60;ze;k60,0;";
        Edges.foretold("27: 9 slower", Edges.with(leader), x -> x.back(0, 12, 1, 600), 0);
        Edges.foretold("27: 10 slower", Edges.with(leader), x -> x.back(0, 13, 1, 600), Checks.NONE);
        Edges.foretold("27: 9 slower", Edges.with(clicked), x -> x.back(0, 18, 1, 600), 0);
        Edges.foretold("27: 10 slower", Edges.with(clicked), x -> x.back(0, 19, 1, 600), Checks.NONE);
        // 580, set to 579, comes to 589; 578, set to 577, comes to 588
        Edges.foretold("27: 9 quicker", of(clicked, 580), x -> x.back(0, 1, 1, 600), 0);
        Edges.foretold("27: 10 quicker", of(clicked, 578), x -> x.back(0, 1, 1, 600), Checks.NONE);
        Edges.foretold("27: 99 less is noticed wherever it is set", Edges.with(leader), x -> x.back(0, 99, 40, 600), Checks.NONE);
        // bars that are not set in count, too: 300 comes to 450 in the first, whatever is set later
        Edges.foretold("27: in none of these", of(clicked, 300), x -> x.back(0, 1, 40, 600), Checks.NONE);
        Edges.foretold("27: the bar behind these does not count", Edges.with("b20,0,0,60;zef;t60,0;k60,0;"),
            x -> x.back(1, 1, 1, 600), 0);
        Edges.foretold("27: the last of these does", Edges.with("b20,0,0,60;zef;r60,0;k60,0;"),
            x -> x.back(1, 1, 2, 600), Checks.NONE);
        // 320 comes to 300, then to 325, where 221 would come to 265
        Edges.foretold("27: 300 at least", of("b0,0,0,40;ze;l40,0;t60,0;t60,0;t60,0;t60,0;", 320),
            x -> x.back(0, 99, 1, 600), 0);
    }

    private static void backBar() {
        String leader = "b0,0,0,60;ze;l60,0;";
        Edges.foretold("27: the last of 40", Edges.with(leader), x -> x.back(0, 9, 40, 590), 39);
        Edges.foretold("27: the last of 39", Edges.with(leader), x -> x.back(0, 9, 39, 590), 38);
        Edges.foretold("27: the only one", Edges.with(leader), x -> x.back(0, 9, 1, 2500), 0);
        Edges.foretold("27: of several the first", Edges.with(leader), x -> x.back(0, 9, 40, 2500), 0);
        Edges.foretold("27: the least PACE", Edges.with(leader), x -> x.back(0, 9, 40, 300), 39);
    }

    private static void songs() {
        Edges.range("28: ROW", eightRowsOf(Edges.STILL, 6), (x, v) -> x.songs(v, 0, 6, -1), 0, 7);
        Edges.range("28: n", FULL, (x, v) -> x.songs(7, 0, v, -1), 1, 6);
        for (int n = 1; n <= 6; n++) {
            int many = n;
            Edges.range("28: k of " + n, FULL, (x, v) -> x.songs(7, 0, many, v), -1, n - 1);
        }
        Edges.refused("28: missing", FULL, x -> x.songs(2, 0, 1, 0), Checks.NULL);
        Edges.refused("28: NULL ahead of PLACE", FULL, x -> x.songs(2, -1, 1, 0), Checks.NULL);
        Edges.refused("28: n ahead of NULL", FULL, x -> x.songs(2, 0, 0, -1), Checks.BAD);
        Edges.refused("28: n ahead of NULL", FULL, x -> x.songs(2, 0, 7, -1), Checks.BAD);
        Edges.refused("28: k ahead of NULL", FULL, x -> x.songs(2, 0, 1, 1), Checks.BAD);
        Edges.refused("28: k ahead of PLACE", FULL, x -> x.songs(0, 6, 1, -2), Checks.BAD);
        Edges.foretold("28: no band is asked for", BARE, x -> x.songs(0, 0, 6, -1), 2500);
        Edges.refused("28: nor for PLACE", BARE, x -> x.songs(0, 1, 6, -1), Checks.PLACE);
        Edges.refused("28: nor for NULL", BARE, x -> x.songs(2, 0, 6, -1), Checks.NULL);
        Edges.refused("28: nor for BAD", BARE, x -> x.songs(8, 0, 6, -1), Checks.BAD);
    }

    private static void songsPlaces() {
        Edges.foretold("28: six of six", FULL, x -> x.songs(0, 0, 6, 0), 0);
        Edges.foretold("28: the last one", FULL, x -> x.songs(0, 5, 1, -1), 0);
        Edges.foretold("28: six up to the end", FULL, x -> x.songs(7, 34, 6, -1), 2500);
        Edges.refused("28: six from 1 on", FULL, x -> x.songs(0, 1, 6, 0), Checks.PLACE);
        Edges.refused("28: one from the end on", FULL, x -> x.songs(0, 6, 1, 0), Checks.PLACE);
        Edges.refused("28: place -1", FULL, x -> x.songs(0, -1, 1, 0), Checks.PLACE);
        Edges.refused("28: place -1 of six", FULL, x -> x.songs(0, -1, 6, 0), Checks.PLACE);
        Edges.refused("28: six beyond 40", FULL, x -> x.songs(7, 35, 6, 0), Checks.PLACE);
        Edges.refused("28: no items", FULL, x -> x.songs(3, 0, 1, 0), Checks.PLACE);
        Edges.refused("28: far", FULL, x -> x.songs(7, BIG, 6, 0), Checks.PLACE);
        Edges.refused("28: far below", FULL, x -> x.songs(7, SMALL, 6, 0), Checks.PLACE);
    }

    private static void songsItems() {
        int[] wrong = {-1, 2501, SMALL, BIG};
        for (int v : wrong) {
            for (int at = 0; at < 6; at++) {
                int place = at;
                Edges.Start start = x -> {
                    Edges.bare(x);
                    x.row(2, 2, 8);
                    x.set(2, 1 + place, v);
                    x.row(0, 0, -1);
                };
                Edges.refused("28: ITEM " + v + " at " + at, start, x -> x.songs(2, 1, 6, -1), Checks.BAD);
                Edges.refused("28: PLACE ahead of ITEM " + v, start, x -> x.songs(2, 3, 6, -1), Checks.PLACE);
            }
            Edges.Start around = x -> {
                Edges.bare(x);
                x.row(2, 2, 8);
                x.set(2, 0, v);
                x.set(2, 7, v);
            };
            Edges.foretold("28: ITEMS around are not looked at, " + v, around, x -> x.songs(2, 1, 6, -1), 0);
        }
        BandPace x = new BandPace();
        Checks.fill(x, 0, 1, 0, 2500);
        Checks.due("28: from 0 to 2500", x.songs(0, 0, 2, -1), 2500);
        Checks.due("28: 2500 alone", x.songs(0, 1, 1, -1), 0);
        Checks.fill(x, 1, 1, 0, 2500, 0, 2500, 0, 2500);
        Checks.due("28: the farthest six", x.songs(1, 0, 6, -1), 2500);
    }

    private static void songsOrder() {
        int[][] rows = {{5}, {5, 5}, {9, 1}, {1, 9, 5}, {9, 1, 5}, {3, 3, 1}, {1, 2, 3, 4, 5, 6}, {6, 5, 4, 3, 2, 1},
            {0, 2500, 0, 2500, 0, 2500}, {7, 7, 7, 7, 7, 7}, {5, 1, 9}, {5, 9, 1}, {2, 6, 4, 1, 3, 5}, {3, 4, 5, 2, 6, 1},
            {4, 5, 2, 3, 6, 1}};
        int[][] orders = {{0}, {0, 1}, {0, 1}, {0, 2, 1}, {0, 2, 1}, {0, 1, 2}, {0, 1, 2, 3, 4, 5}, {0, 1, 2, 3, 4, 5},
            {0, 2, 4, 1, 3, 5}, {0, 1, 2, 3, 4, 5}, {1, 0, 2}, {1, 0, 2}, {1, 5, 2, 4, 0, 3}, {4, 2, 1, 0, 3, 5},
            {4, 1, 0, 3, 2, 5}};
        for (int r = 0; r < rows.length; r++) {
            BandPace x = new BandPace();
            Checks.fill(x, 0, 1, rows[r]);
            for (int k = 0; k < orders[r].length; k++) {
                Checks.due("28: row " + r + ", place " + k, x.songs(0, 0, rows[r].length, k), orders[r][k]);
            }
        }
    }

    private static void clapped() {
        Edges.range("29: c", FULL, (x, v) -> x.clapped(v, 1), 1, 99);
        Edges.range("29: n", FULL, (x, v) -> x.clapped(1, v), 0, 200);
        Edges.foretold("29: the least, now", STILL, x -> x.clapped(1, 0), 1);
        Edges.foretold("29: the most, now", STILL, x -> x.clapped(99, 0), 99);
        Edges.foretold("29: the most, behind 200", STILL, x -> x.clapped(99, 200), 99);
        Edges.foretold("29: 2500 at most", of(Edges.STILL, 2402), x -> x.clapped(99, 0), 98);
        Edges.foretold("29: 2500 already", of(Edges.STILL, 2500), x -> x.clapped(99, 0), 0);
        Edges.foretold("29: 2500 without them, too", NINE, x -> x.clapped(99, 200), 99);
        Edges.foretold("29: 2500 without them, too", of(Edges.NINE, 700), x -> x.clapped(99, 200), 0);
        Edges.foretold("29: 2499 without them", of(Edges.NINE, 699), x -> x.clapped(99, 200), 1);
    }

    /** Row 0 has six items: five players begin at 0 or 1. */
    private static void whoPushed() {
        Edges.range("30: ROW", eightRowsOf(Edges.STILL, 1), (x, v) -> x.whoPushed(v, 0, 0), 0, 7);
        Edges.range("30: what", FULL, (x, v) -> x.whoPushed(0, 0, v), 0, 1);
        Edges.foretold("30: from 0 on", FULL, x -> x.whoPushed(0, 0, 0), 0);
        Edges.foretold("30: up to the end", FULL, x -> x.whoPushed(0, 1, 0), 0);
        Edges.foretold("30: NONE", FULL, x -> x.whoPushed(0, 1, 1), Checks.NONE);
        Edges.foretold("30: up to the end of 40", FULL, x -> x.whoPushed(7, 35, 0), 0);
        Edges.refused("30: from 2 on", FULL, x -> x.whoPushed(0, 2, 0), Checks.PLACE);
        Edges.refused("30: place -1", FULL, x -> x.whoPushed(0, -1, 0), Checks.PLACE);
        Edges.refused("30: beyond 40", FULL, x -> x.whoPushed(7, 36, 0), Checks.PLACE);
        Edges.refused("30: three items for five", FULL, x -> x.whoPushed(4, 0, 0), Checks.PLACE);
        Edges.refused("30: no items", FULL, x -> x.whoPushed(3, 0, 0), Checks.PLACE);
        Edges.refused("30: far", FULL, x -> x.whoPushed(7, BIG, 0), Checks.PLACE);
        Edges.refused("30: far below", FULL, x -> x.whoPushed(7, SMALL, 0), Checks.PLACE);
        Edges.foretold("30: one item for one", STILL, x -> x.whoPushed(0, 5, 0), 0);
        Edges.refused("30: none for one", STILL, x -> x.whoPushed(0, 6, 0), Checks.PLACE);
        Edges.refused("30: missing", FULL, x -> x.whoPushed(2, 0, 0), Checks.NULL);
        Edges.refused("30: NULL ahead of PLACE", FULL, x -> x.whoPushed(2, -1, 0), Checks.NULL);
        Edges.refused("30: what ahead of NULL", FULL, x -> x.whoPushed(2, 0, 2), Checks.BAD);
        Edges.refused("30: what ahead of PLACE", FULL, x -> x.whoPushed(0, -1, -1), Checks.BAD);
    }

    private static void whoPushedBy() {
        for (int by = 0; by <= 21; by++) {
            boolean could = by >= 1 && by <= 20;
            pushed(Edges.STILL, 600, by, could);
            pushed(Edges.NINE, 609, by, could);
        }
        pushed(Edges.STILL, 600, -1, false);
        pushed(Edges.STILL, SMALL + 1, 0, false);
        pushed(Edges.STILL, BIG, 0, false);
        // more than 2500 it cannot be: 9 and 1 make it 2500, so do 9 and 20
        BandPace x = Checks.told(Edges.NINE);
        x.pace(0, 2490);
        Checks.fill(x, 0, 1, 2500);
        Checks.due("30: the least of many", x.whoPushed(0, 0, 0), 1);
        Checks.due("30: the least of many", x.whoPushed(0, 0, 1), 1);
        // at a held one HASTE is not played, so all could have had any
        BandPace held = Checks.told("b0,0,0,60;zh;t60,9;t60,9;");
        Checks.fill(held, 0, 1, 600, 600);
        Checks.due("30: held", held.whoPushed(0, 0, 0), 3);
        Checks.due("30: held", held.whoPushed(0, 0, 1), 1);
        BandPace last = Checks.told("b0,0,0,60;ze;t60,0;t60,0;t60,0;t60,0;t60,0;");
        Checks.fill(last, 0, 1, 600, 600, 600, 600, 620);
        Checks.due("30: the last of five", last.whoPushed(0, 0, 0), 16);
        Checks.due("30: the last of five, by the most", last.whoPushed(0, 0, 1), 20);
    }

    private static void pushed(String text, int without, int by, boolean could) {
        BandPace x = Checks.told(text);
        Checks.fill(x, 0, 2, without + by);
        Checks.due("30: who, " + by + " more than " + without, x.whoPushed(0, 0, 0), could ? 1 : 0);
        Checks.due("30: by how much, " + by + " more than " + without, x.whoPushed(0, 0, 1), could ? by : Checks.NONE);
    }

    private static void night() {
        Edges.range("31: n", FULL, (x, v) -> x.night(v, 1, 0), 0, 100);
        Edges.range("31: SEED", FULL, (x, v) -> x.night(1, v, 0), 1, 999999);
        Edges.range("31: what", FULL, (x, v) -> x.night(1, 1, v), 0, 1);
        Edges.foretold("31: no bars", STILL, x -> x.night(0, 1, 0), 600);
        Edges.foretold("31: no bars", NINE, x -> x.night(0, 999999, 1), 0);
    }

    /** By SEED S of 1 to 5 the first X is 16807 S: 2, 4, 1, 3, 0 by 5, so 0, 2, -1, 1, -2 more. */
    private static void nightDraws() {
        int[] more = {0, 2, -1, 1, -2};
        for (int seed = 1; seed <= 5; seed++) {
            int s = seed;
            Edges.foretold("31: by " + seed, STILL, x -> x.night(1, s, 0), 600 + more[s - 1]);
            Edges.foretold("31: noticed by " + seed, NINE, x -> x.night(1, s, 1), 9 + more[s - 1] > 9 ? 1 : 0);
        }
        // 999999 times 16807 is 16806983193, its rest 1774597664: 2 more
        Edges.foretold("31: by the most", STILL, x -> x.night(1, 999999, 0), 602);
        Edges.foretold("31: 300 at least ahead of the bar", of("b0,0,0,60;ze;t60,1;", 300), x -> x.night(1, 5, 0), 301);
        Edges.foretold("31: 2500 at most ahead of the bar", of("b0,1,0,60;zq;t60,0;", 2500), x -> x.night(1, 2, 0), 2499);
        // 9 slower by DRAG; a draw that makes it 1 slower counts, too
        String slower = "b0,9,0,60;zq;t60,0;";
        Edges.foretold("31: 9 slower", Edges.with(slower), x -> x.night(1, 1, 1), 0);
        Edges.foretold("31: 10 slower", Edges.with(slower), x -> x.night(1, 3, 1), 1);
        // 18 to 22 quicker in each bar, and below 2500 up to the last
        Edges.foretold("31: each of 90", Edges.with("b20,0,0,60;zf;t60,0;"), x -> x.night(90, 1, 1), 90);
    }

    private static void images() {
        Edges.range("32: k", FULL, (x, v) -> x.image(v), 0, 1);
        Edges.taken("32: the first", FULL, x -> x.image(0), 1);
        Edges.taken("32: the second", FULL, x -> x.image(1), 1);
        Edges.range("33: k", FULL, (x, v) -> x.restore(v), 0, 1);
        for (int k = 0; k < 2; k++) {
            int one = k;
            Edges.refused("32: no band, " + k, BARE, x -> x.image(one), Checks.STATE);
            Edges.refused("33: none was kept, " + k, BARE, x -> x.restore(one), Checks.STATE);
            Edges.refused("33: none was kept of a band, " + k, STILL, x -> x.restore(one), Checks.STATE);
            Edges.Start other = x -> {
                STILL.on(x);
                x.image(1 - one);
                x.bars(1);
            };
            Edges.refused("33: the other one was kept, " + k, other, x -> x.restore(one), Checks.STATE);
            Edges.taken("33: the other one, " + k, other, x -> x.restore(1 - one), 1);
        }
        for (int k : new int[]{-1, 2, BIG, SMALL}) {
            Edges.refused("32: BAD ahead of STATE, " + k, BARE, x -> x.image(k), Checks.BAD);
            Edges.refused("33: BAD ahead of STATE, " + k, BARE, x -> x.restore(k), Checks.BAD);
        }
        BandPace x = Checks.told(Edges.NINE);
        x.image(0);
        x.bars(2);
        x.image(0);
        x.bars(1);
        Checks.due("33: in place of the one before", x.restore(0), 1);
        Checks.due("33: in place of the one before", x.count(5), 618);
        Checks.due("33: bars gone", x.count(4), 2);
        Checks.due("33: no act can be undone", x.count(7), 0);
        x.bars(1);
        Checks.due("33: it is kept yet", x.restore(0), 1);
        Checks.due("33: it is kept yet", x.count(5), 618);
        Checks.read(x, "b");
        Checks.due("33: behind a fault", x.restore(0), 1);
        Checks.read(x, Checks.FIVE);
        Checks.due("33: behind another band", x.restore(0), 1);
        Checks.due("33: behind another band", x.count(1), 1);
    }

    /** What was foretold before makes no answer another one: all calls on one object, there and back. */
    private static void nothingIsLeft() {
        Edges.Call[] calls = {x -> x.ahead(0, 30), x -> x.ahead(-1, 7), x -> x.drift(), x -> x.round(0), x -> x.round(1),
            x -> x.noticed(200, 3), x -> x.dancers(0, 0, 3, 20, 0), x -> x.dancers(0, 0, 3, 20, 1),
            x -> x.dancers(0, 4, 1, 0, 1), x -> x.countIn(9, 700), x -> x.deaf(0), x -> x.deaf(1), x -> x.inEar(0),
            x -> x.inEar(1), x -> x.blame(0), x -> x.blame(1), x -> x.blame(4), x -> x.back(3, 5, 9, 640),
            x -> x.back(4, 9, 5, 610), x -> x.songs(0, 0, 6, -1), x -> x.songs(0, 1, 3, 1), x -> x.songs(4, 0, 2, 0),
            x -> x.clapped(9, 4), x -> x.clapped(99, 0), x -> x.whoPushed(0, 1, 0), x -> x.whoPushed(0, 1, 1),
            x -> x.whoPushed(2, 0, 0), x -> x.whoPushed(2, 0, 1), x -> x.night(20, 5, 0), x -> x.night(20, 5, 1),
            x -> x.night(0, 5, 1), x -> x.ask(1, 0), x -> x.ask(4, 1)};
        Edges.Start[] starts = {FULL, x -> {
            Edges.full(x);
            x.undo();
            pushedRow(x);
        }, x -> {
            Edges.full(x);
            x.bars(1);
            x.hears(2, 3, 0);
            pushedRow(x);
        }};
        for (Edges.Start start : starts) {
            BandPace x = Edges.made(start);
            for (int k = 0; k < 2 * calls.length; k++) {
                Edges.Call call = calls[k < calls.length ? k : 2 * calls.length - 1 - k];
                Checks.due("foretold: call " + k + " of many", call.on(x), call.on(Edges.made(start)));
            }
        }
        BandPace y = Checks.told("b0,0,0,60;ze;t60,9;t60,9;w0,1,5;");
        Checks.due("31: nothing was noticed", y.night(0, 1, 1), 0);
        Checks.due("25: a night of none leaves no answer", y.inEar(0), 0);
        Checks.due("31: nothing was noticed", y.night(0, 1, 1), 0);
        Checks.due("25: 605 and 609", y.inEar(1), 7);
        Checks.due("31: nothing was noticed", y.night(0, 1, 1), 0);
        Checks.due("24: a night of none leaves no answer", y.deaf(0), 1);
        Checks.due("31: nothing was noticed", y.night(0, 1, 1), 0);
        Checks.due("24: 609 and 609", y.deaf(1), 9);
    }

    /** Row 2 tells the paces behind the next bar, of which 3, with a click, is 2 more. */
    private static void pushedRow(BandPace x) {
        x.row(2, 1, 5);
        for (int p = 0; p < 5; p++) {
            x.set(2, p, x.ahead(p, 1) + (p == 3 ? 2 : 0));
        }
        Checks.due("30: somebody pushed", x.whoPushed(2, 0, 0), 8);
    }
}
