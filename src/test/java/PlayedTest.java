/** Promises 9 to 17: what is done, and undone. */
public final class PlayedTest {
    private static final int BIG = Integer.MAX_VALUE, SMALL = Integer.MIN_VALUE;

    public static void main(String[] args) {
        bars();
        barsBounded();
        barsRefused();
        pace();
        hears();
        click();
        claps();
        player();
        ear();
        bar();
        undo();
        undoForgets();
        setToTheSame();
        Checks.end("PlayedTest");
    }

    /** Reckoned by hand from part 2 of the terms. */
    private static void bars() {
        BandPace x = Checks.told(Checks.FIVE);
        Checks.paces("told", x, 600, 610, 590, 620, 600);
        Checks.due("10: even", x.bars(1), 608);
        Checks.paces("10: even", x, 606, 608, 599, 620, 607);
        Checks.due("10: a fill", x.bars(1), 615);
        Checks.paces("10: a fill", x, 614, 622, 611, 620, 612);
        Checks.due("10: quiet", x.bars(1), 614);
        Checks.paces("10: quiet", x, 615, 617, 605, 620, 616);
        Checks.due("10: a chorus", x.bars(1), 619);
        Checks.paces("10: a chorus", x, 622, 624, 614, 620, 619);
        Checks.due("10: bar 4 is to come", x.count(3), 4);
        Checks.due("10: held", x.bars(1), 620);
        Checks.paces("10: held", x, 623, 624, 615, 620, 619);
        Checks.due("10: the first comes again", x.count(3), 0);
        Checks.due("10: five are gone", x.count(4), 5);
        Checks.due("10: five acts", x.count(7), 5);
        BandPace y = Checks.told(Checks.FIVE);
        Checks.due("10: all five at once", y.bars(5), 620);
        Checks.paces("10: all five at once", y, 623, 624, 615, 620, 619);
        BandPace z = Checks.told("b0,0,0,60;ze;t60,0;t61,0;t99,0;w0,1,3;w0,2,9;w1,0,5;w1,2,9;w2,0,9;w2,1,9;");
        // 0: (3*10 + 9*390) / 10 = 354; 1: (-50 + 3420) / 10 = 337; 2: (-3510 - 3420) / 10 = -693
        Checks.due("10: ears added, then cut", z.bars(1), (954 + 947 + 300) / 3);
        Checks.paces("10: ears added, then cut", z, 954, 947, 300);
    }

    private static void barsBounded() {
        BandPace x = Checks.told("b0,20,0,40;zq;d40,0;k40,0;l40,0;");
        x.pace(0, 320);
        x.pace(1, 2500);
        x.pace(2, 2500);
        x.bars(1);
        Checks.paces("10: bounds", x, 300, 1450, 1975);
        x.bars(1);
        Checks.paces("10: bounds", x, 300, 925, 1582);
        BandPace y = Checks.told("b20,0,0,40;zf;r40,9;k40,9;l41,0;w1,0,9;");
        y.pace(0, 2460);
        y.pace(1, 300);
        // 1: 300 + 9 * 2160 / 10 + 9 = 2253, nearer by (400 - 2253) / 2 = -926
        y.bars(1);
        Checks.paces("10: bounds", y, 2500, 1327, 408);
        // below the click: 2 at 408: (400 - 408) / 2 / 2 = -2
        y.bars(1);
        Checks.due("10: a leader, nearer by half of a half", y.player(2, 0), 406);
        BandPace z = Checks.told("b0,0,0,99;ze;k40,0;t99,9;w0,1,9;");
        z.pace(0, 300);
        z.pace(1, 2500);
        // 300 + 1980 = 2280, nearer by (990 - 2280) / 2 = -645
        z.bars(1);
        Checks.paces("10: the click comes last", z, 1635, 2500);
    }

    private static void barsRefused() {
        BandPace x = new BandPace();
        Checks.due("10: no band", x.bars(1), Checks.STATE);
        Checks.due("10: STATE ahead of BAD", x.bars(0), Checks.STATE);
        Checks.read(x, "b0,0,0,60;ze;t60,0;");
        Checks.due("10: 0 bars", x.bars(0), Checks.BAD);
        Checks.due("10: 25 bars", x.bars(25), Checks.BAD);
        Checks.due("10: far too many", x.bars(BIG), Checks.BAD);
        Checks.due("10: far too few", x.bars(SMALL), Checks.BAD);
        for (int n = 0; n < 41; n++) {
            x.bars(24);
        }
        Checks.due("10: 984 are gone", x.count(4), 984);
        Checks.due("10: 1000 would be", x.bars(16), Checks.FULL);
        Checks.due("10: nothing changes", x.count(4), 984);
        Checks.due("10: BAD ahead of FULL", x.bars(25), Checks.BAD);
        Checks.due("10: 999", x.bars(15), 600);
        Checks.due("10: one more", x.bars(1), Checks.FULL);
        x.undo();
        Checks.due("10: one is undone", x.bars(1), 600);
        Checks.due("10: ahead goes on", x.ahead(0, 200), 600);
    }

    private static void pace() {
        BandPace x = new BandPace();
        Checks.due("11: no band", x.pace(0, 600), Checks.BAD);
        Checks.read(x, Checks.FIVE);
        Checks.due("11: least", x.pace(0, 300), 600);
        Checks.due("11: most", x.pace(0, 2500), 300);
        Checks.due("11: it is", x.player(0, 0), 2500);
        Checks.due("11: others are not", x.player(1, 0), 610);
        Checks.due("11: below", x.pace(0, 299), Checks.BAD);
        Checks.due("11: above", x.pace(0, 2501), Checks.BAD);
        Checks.due("11: player 5", x.pace(5, 600), Checks.BAD);
        Checks.due("11: player -1", x.pace(-1, 600), Checks.BAD);
        Checks.due("11: acts", x.count(7), 2);
        Checks.due("11: of the band", x.count(5), (2500 + 610 + 590 + 620 + 600) / 5);
    }

    private static void hears() {
        BandPace x = new BandPace();
        Checks.due("12: no band", x.hears(0, 1, 1), Checks.BAD);
        Checks.read(x, Checks.FIVE);
        Checks.due("12: not at all", x.hears(0, 1, 0), 5);
        Checks.due("12: again", x.hears(0, 1, 9), 0);
        Checks.due("12: anew", x.hears(4, 3, 1), 0);
        Checks.due("12: it does", x.ear(4, 3), 1);
        Checks.due("12: not the other way", x.ear(3, 4), 0);
        Checks.due("12: acts", x.count(7), 3);
        Checks.due("12: alike", x.hears(1, 1, 1), Checks.BAD);
        Checks.due("12: 10", x.hears(0, 1, 10), Checks.BAD);
        Checks.due("12: -1", x.hears(0, 1, -1), Checks.BAD);
        Checks.due("12: i 5", x.hears(5, 1, 1), Checks.BAD);
        Checks.due("12: j 5", x.hears(1, 5, 1), Checks.BAD);
        Checks.due("12: i -1", x.hears(-1, 1, 1), Checks.BAD);
        Checks.due("12: j -1", x.hears(1, -1, 1), Checks.BAD);
        for (int i = 0; i < 5; i++) {
            for (int j = 0; j < 5; j++) {
                if (i != j) {
                    x.hears(i, j, 2);
                }
            }
        }
        Checks.due("12: more ears than a text has", x.player(3, 3), 4);
    }

    private static void click() {
        BandPace x = new BandPace();
        Checks.due("13: no band", x.click(60), Checks.STATE);
        Checks.due("13: STATE ahead of BAD", x.click(0), Checks.STATE);
        Checks.read(x, "b0,0,0,60;ze;k60,0;");
        Checks.due("13: least", x.click(40), 60);
        Checks.due("13: most", x.click(99), 40);
        Checks.due("13: below", x.click(39), Checks.BAD);
        Checks.due("13: above", x.click(100), Checks.BAD);
        Checks.due("13: it is", x.count(6), 99);
        Checks.due("13: acts", x.count(7), 2);
        Checks.due("13: nearer", x.bars(1), 600 + 390 / 2);
    }

    private static void claps() {
        BandPace x = new BandPace();
        Checks.due("14: no band", x.claps(1), Checks.STATE);
        Checks.due("14: STATE ahead of BAD", x.claps(0), Checks.STATE);
        Checks.read(x, "b0,0,0,60;ze;t60,0;k70,0;");
        x.pace(1, 2450);
        Checks.due("14: most", x.claps(99), (699 + 2500) / 2);
        Checks.paces("14: 2500 at most", x, 699, 2500);
        Checks.due("14: least", x.claps(1), (700 + 2500) / 2);
        Checks.due("14: 0", x.claps(0), Checks.BAD);
        Checks.due("14: 100", x.claps(100), Checks.BAD);
        Checks.due("14: acts", x.count(7), 3);
        Checks.due("14: no bar", x.count(4), 0);
    }

    private static void player() {
        BandPace x = new BandPace();
        Checks.due("15: no band", x.player(0, 0), Checks.BAD);
        Checks.read(x, Checks.FIVE);
        int[][] leans = {{0, 0, 0, 0, 0}, {6, 12, 6, 0, 0}, {-4, -4, -8, 0, 0}, {5, 5, 5, 0, 0}, {0, 0, 0, 0, 0}};
        for (int k = 0; k < 5; k++) {
            for (int p = 0; p < 5; p++) {
                Checks.due("15: lean of " + p + " at bar " + k, x.player(p, 2), leans[k][p]);
            }
            x.bars(1);
        }
        int[] hastes = {1, 2, 0, 0, 3};
        int[] heard = {1, 1, 1, 0, 0};
        for (int p = 0; p < 5; p++) {
            Checks.due("15: haste of " + p, x.player(p, 1), hastes[p]);
            Checks.due("15: heard by " + p, x.player(p, 3), heard[p]);
        }
        Checks.due("15: what 4", x.player(0, 4), Checks.BAD);
        Checks.due("15: what -1", x.player(0, -1), Checks.BAD);
        Checks.due("15: player 5", x.player(5, 0), Checks.BAD);
        Checks.due("15: player -1", x.player(-1, 0), Checks.BAD);
        x.hears(0, 1, 0);
        Checks.due("15: heard no more", x.player(0, 3), 0);
    }

    private static void ear() {
        BandPace x = new BandPace();
        Checks.due("16: no band", x.ear(0, 1), Checks.BAD);
        Checks.read(x, Checks.FIVE);
        Checks.due("16: 0 hears 1", x.ear(0, 1), 5);
        Checks.due("16: 1 hears 0", x.ear(1, 0), 4);
        Checks.due("16: 2 hears 3", x.ear(2, 3), 3);
        Checks.due("16: 3 does not hear 2", x.ear(3, 2), 0);
        Checks.due("16: alike", x.ear(2, 2), Checks.BAD);
        Checks.due("16: i 5", x.ear(5, 0), Checks.BAD);
        Checks.due("16: j 5", x.ear(0, 5), Checks.BAD);
        Checks.due("16: i -1", x.ear(-1, 0), Checks.BAD);
        Checks.due("16: j -1", x.ear(0, -1), Checks.BAD);
    }

    private static void bar() {
        BandPace x = new BandPace();
        Checks.due("17: no band", x.bar(0), Checks.BAD);
        Checks.read(x, Checks.FIVE);
        for (int k = 0; k < 5; k++) {
            Checks.due("17: bar " + k, x.bar(k), k);
        }
        Checks.due("17: bar 5", x.bar(5), Checks.BAD);
        Checks.due("17: bar -1", x.bar(-1), Checks.BAD);
        x.bars(2);
        Checks.due("17: of the song, not from now on", x.bar(0), 0);
    }

    private static void undo() {
        BandPace x = Checks.told(Checks.FIVE);
        x.bars(2);
        x.pace(0, 700);
        x.hears(0, 4, 9);
        x.click(70);
        x.claps(50);
        x.bars(1);
        Checks.due("9: seven acts", x.count(7), 7);
        Checks.due("9: the bar", x.undo(), 6);
        Checks.due("9: bar 2 is to come", x.count(3), 2);
        Checks.due("9: two are gone", x.count(4), 2);
        Checks.paces("9: the bar", x, 750, 672, 661, 670, 662);
        Checks.due("9: claps", x.undo(), 5);
        Checks.paces("9: claps", x, 700, 622, 611, 620, 612);
        Checks.due("9: click yet", x.count(6), 70);
        Checks.due("9: click", x.undo(), 4);
        Checks.due("9: click was", x.count(6), 62);
        Checks.due("9: the ear yet", x.ear(0, 4), 9);
        Checks.due("9: the ear", x.undo(), 3);
        Checks.due("9: the ear was", x.ear(0, 4), 0);
        Checks.due("9: the pace", x.undo(), 2);
        Checks.paces("9: the pace", x, 614, 622, 611, 620, 612);
        Checks.due("9: a bar", x.undo(), 1);
        Checks.paces("9: a bar", x, 606, 608, 599, 620, 607);
        Checks.due("9: the first", x.undo(), 0);
        Checks.paces("9: the first", x, 600, 610, 590, 620, 600);
        Checks.due("9: none", x.undo(), Checks.STATE);
        Checks.due("9: no bar is gone", x.count(4), 0);
        int[] heard = {1, 1, 1, 0, 0};
        for (int p = 0; p < 5; p++) {
            Checks.due("9: heard by " + p, x.player(p, 3), heard[p]);
        }
    }

    private static void undoForgets() {
        BandPace x = Checks.told("b0,0,0,60;ze;t60,1;");
        x.claps(9);
        x.bars(24);
        Checks.due("9: 24 are kept", x.count(7), 24);
        x.bars(6);
        for (int left = 23; left >= 0; left--) {
            Checks.due("9: left", x.undo(), left);
        }
        Checks.due("9: the oldest are forgotten", x.undo(), Checks.STATE);
        Checks.due("9: six bars stay", x.count(4), 6);
        Checks.due("9: and the claps", x.count(5), 615);
        Checks.due("9: bar 0 of one", x.count(3), 0);
        x.bars(3);
        Checks.due("9: kept anew", x.undo(), 2);
        Checks.due("9: kept anew", x.count(5), 617);
        BandPace y = Checks.told("b0,0,0,60;zefq;t60,1;");
        y.bars(9);
        for (int gone = 8; gone >= 0; gone--) {
            y.undo();
            Checks.due("9: the bar to come", y.count(3), gone % 3);
            Checks.due("9: bars gone", y.count(4), gone);
        }
    }

    /** The promises of pace, hears, click make no exception for what is so already: an act all the same (NOTES.md). */
    private static void setToTheSame() {
        BandPace x = Checks.told(Checks.FIVE);
        Checks.due("11: the same", x.pace(0, 600), 600);
        Checks.due("11: an act", x.count(7), 1);
        Checks.due("12: the same", x.hears(0, 1, 5), 5);
        Checks.due("12: an act", x.count(7), 2);
        Checks.due("12: not at all, as before", x.hears(3, 4, 0), 0);
        Checks.due("12: an act", x.count(7), 3);
        Checks.due("13: the same", x.click(62), 62);
        Checks.due("13: an act", x.count(7), 4);
        x.pace(0, 700);
        Checks.due("9: the pace", x.undo(), 4);
        Checks.due("9: the click, the same", x.undo(), 3);
        Checks.paces("9: nothing else", x, 600, 610, 590, 620, 600);
        Checks.due("9: click", x.count(6), 62);
        Checks.due("9: the ear", x.ear(0, 1), 5);
    }
}
