/** Promises 9 to 17 at their edges: acts, bars, what is set, what is asked of a band. */
public final class PlayedEdgesTest {
    private static final int BIG = Edges.BIG, SMALL = Edges.SMALL;
    private static final Edges.Start FULL = Edges::full, BARE = Edges::bare;

    public static void main(String[] args) {
        undoNone();
        undoTheLatestFirst();
        actsAreKept();
        oldestIsForgotten();
        howManyBars();
        barsGone();
        roomAgain();
        songComesRound();
        paceIsBounded();
        pullIsCutAndBounded();
        nearerIsCut();
        pace();
        hears();
        click();
        claps();
        player();
        ear();
        bar();
        Checks.end("PlayedEdgesTest");
    }

    private static void undoNone() {
        Edges.refused("9: no band", BARE, x -> x.undo(), Checks.STATE);
        Edges.refused("9: a band that was read", Edges.with(Checks.FIVE), x -> x.undo(), Checks.STATE);
        Edges.refused("9: the only act is undone", x -> {
            Edges.with(Checks.FIVE).on(x);
            x.bars(1);
            x.undo();
        }, x -> x.undo(), Checks.STATE);
        Edges.refused("9: an image", x -> {
            Edges.with(Checks.FIVE).on(x);
            x.image(0);
            x.bars(2);
            x.restore(0);
        }, x -> x.undo(), Checks.STATE);
        Edges.taken("9: the last of eight", FULL, x -> x.undo(), 7);
    }

    private static void undoTheLatestFirst() {
        BandPace x = Edges.made(Edges.with(Checks.FIVE));
        for (int k = 0; k < 5; k++) {
            act(x, k);
            Checks.due("9: acts", x.count(7), k + 1);
        }
        for (int k = 4; k >= 0; k--) {
            Checks.due("9: act " + k + " stands", stands(x, k) ? 1 : 0, 1);
            Checks.due("9: undone, left", x.undo(), k);
            Checks.due("9: act " + k + " is undone", stands(x, k) ? 1 : 0, 0);
        }
    }

    /** Acts of five sorts: a bar, a pace, an ear, the click, claps. */
    private static void act(BandPace x, int sort) {
        switch (sort) {
            case 0:
                x.bars(1);
                break;
            case 1:
                x.pace(2, 2000);
                break;
            case 2:
                x.hears(3, 4, 9);
                break;
            case 3:
                x.click(99);
                break;
            default:
                x.claps(7);
        }
    }

    /** Claps show by the pace of 4, which no other act of these but a bar changes. */
    private static boolean stands(BandPace x, int sort) {
        switch (sort) {
            case 0:
                return x.count(3) == 1 && x.count(4) == 1;
            case 1:
                return x.player(2, 0) >= 2000;
            case 2:
                return x.ear(3, 4) == 9;
            case 3:
                return x.count(6) == 99;
            default:
                return x.player(4, 0) == 614;
        }
    }

    private static void actsAreKept() {
        BandPace x = Checks.told(Edges.STILL);
        for (int k = 1; k <= 24; k++) {
            x.claps(1);
            Checks.due("9: acts that can be undone", x.count(7), k);
        }
        x.claps(1);
        Checks.due("9: 24 at most", x.count(7), 24);
        for (int left = 23; left >= 0; left--) {
            Checks.due("9: left", x.undo(), left);
            Checks.due("9: the pace then", x.count(5), 601 + left);
        }
        Checks.due("9: the first claps stay", x.undo(), Checks.STATE);
        Checks.due("9: the first claps stay", x.count(5), 601);
        BandPace y = Checks.told(Edges.NINE);
        y.bars(24);
        Checks.due("10: an act each", y.count(7), 24);
        for (int left = 23; left >= 0; left--) {
            Checks.due("9: a bar, left", y.undo(), left);
            Checks.due("9: a bar less is gone", y.count(4), left);
            Checks.due("9: the pace ahead of it", y.count(5), 600 + 9 * left);
        }
        Checks.due("9: no more", y.undo(), Checks.STATE);
        BandPace z = Checks.told("b0,0,0,60;zefq;t60,0;t61,0;t62,0;t63,0;t64,1;");
        z.bars(7);
        for (int left = 6; left >= 0; left--) {
            Checks.due("9: back over the song's end, left", z.undo(), left);
            Checks.due("9: the bar to come again", z.count(3), left % 3);
            Checks.paces("9: behind " + left, z, 600, 610, 620, 630, 640 + left);
        }
    }

    /** Behind 23 more acts it can be undone yet, behind 24 more it cannot. */
    private static void oldestIsForgotten() {
        for (int sort = 0; sort < 4; sort++) {
            for (int more = 23; more <= 24; more++) {
                BandPace x = Checks.told(Checks.FIVE);
                act(x, sort);
                for (int k = 0; k < more; k++) {
                    x.claps(1);
                }
                for (int left = 23; left >= 0; left--) {
                    Checks.due("9: left, behind " + more, x.undo(), left);
                }
                Checks.due("9: none behind " + more, x.undo(), Checks.STATE);
                Checks.due("9: sort " + sort + " behind " + more + " more", stands(x, sort) ? 1 : 0, more == 24 ? 1 : 0);
            }
        }
        BandPace y = Checks.told(Edges.STILL);
        for (int k = 0; k < 100; k++) {
            y.claps(1);
        }
        y.undo();
        y.claps(50);
        Checks.due("9: many were forgotten", y.count(7), 24);
        for (int left = 23; left >= 0; left--) {
            y.undo();
        }
        Checks.due("9: many were forgotten", y.count(5), 676);
    }

    private static void howManyBars() {
        Edges.range("10: n", FULL, (x, v) -> x.bars(v), 1, 24);
        for (int n : new int[]{-1, 0, 1, 24, 25, BIG, SMALL}) {
            Edges.refused("10: STATE ahead of BAD, n " + n, BARE, x -> x.bars(n), Checks.STATE);
        }
        BandPace x = Checks.told(Edges.NINE);
        Checks.due("10: one", x.bars(1), 609);
        Checks.due("10: 24 more", x.bars(24), 825);
        Checks.due("10: 25 are gone", x.count(4), 25);
    }

    /** A band of whom so many bars are gone, an image of it ahead of them. */
    private static Edges.Start gone(int n) {
        return x -> {
            Checks.read(x, "b0,0,0,60;zefq;t60,0;");
            x.image(0);
            int left = n;
            while (left > 0) {
                x.bars(Math.min(24, left));
                left -= Math.min(24, left);
            }
            Edges.bare(x);
            Checks.due("10: gone", x.count(4), n);
        };
    }

    private static void barsGone() {
        Edges.taken("10: 24 up to 999", gone(975), x -> x.bars(24), 600);
        Edges.refused("10: 24 up to 1000", gone(976), x -> x.bars(24), Checks.FULL);
        Edges.taken("10: 23 up to 999", gone(976), x -> x.bars(23), 600);
        Edges.taken("10: one up to 999", gone(998), x -> x.bars(1), 600);
        Edges.refused("10: two up to 1000", gone(998), x -> x.bars(2), Checks.FULL);
        Edges.refused("10: one up to 1000", gone(999), x -> x.bars(1), Checks.FULL);
        Edges.refused("10: BAD ahead of FULL, below", gone(999), x -> x.bars(0), Checks.BAD);
        Edges.refused("10: BAD ahead of FULL, above", gone(999), x -> x.bars(25), Checks.BAD);
    }

    private static void roomAgain() {
        BandPace x = Edges.made(gone(999));
        Checks.due("10: foretold beyond", x.ahead(-1, 200), 600);
        Checks.due("10: one is undone", x.undo(), 23);
        Checks.due("10: one is undone, one less is gone", x.count(4), 998);
        Checks.due("10: one is undone", x.bars(1), 600);
        Checks.due("10: no more", x.bars(1), Checks.FULL);
        Checks.due("33: as the image was", x.restore(0), 1);
        Checks.due("33: no bar is gone", x.count(4), 0);
        Checks.due("10: room again", x.bars(24), 600);
        BandPace y = Edges.made(gone(999));
        y.band();
        Checks.read(y, Edges.STILL);
        Checks.due("10: a band that was read", y.bars(24), 600);
        Checks.due("10: a band that was read", y.count(4), 24);
    }

    private static void songComesRound() {
        for (int length : new int[]{1, 2, 11, 12}) {
            BandPace x = Checks.told("b1,2,3,60;z" + "efqchefqchef".substring(0, length) + ";t60,0;");
            int[] leans = {0, 1, -2, 3, 0};
            for (int k = 0; k < 25; k++) {
                Checks.due("10: the bar to come of " + length, x.count(3), k % length);
                Checks.due("15: the lean at it", x.player(0, 2), leans[x.bar(k % length)]);
                x.bars(1);
            }
        }
    }

    private static void paceIsBounded() {
        String slower = "b0,1,0,60;zq;t60,0;";
        behindOneBar(slower, 302, 301);
        behindOneBar(slower, 301, 300);
        behindOneBar(slower, 300, 300);
        behindOneBar("b0,20,0,60;zq;d60,0;", 341, 301);
        behindOneBar("b0,20,0,60;zq;d60,0;", 340, 300);
        behindOneBar("b0,20,0,60;zq;d60,0;", 339, 300);
        behindOneBar(Edges.NINE, 2490, 2499);
        behindOneBar(Edges.NINE, 2491, 2500);
        behindOneBar(Edges.NINE, 2492, 2500);
        behindOneBar(Edges.NINE, 2500, 2500);
        behindOneBar("b20,0,0,60;zf;r60,9;", 2450, 2499);
        behindOneBar("b20,0,0,60;zf;r60,9;", 2451, 2500);
        behindOneBar("b20,0,0,60;zf;r60,9;", 2452, 2500);
    }

    private static void behindOneBar(String text, int from, int want) {
        BandPace x = Checks.told(text);
        x.pace(0, from);
        Checks.due("18: behind one bar from " + from + " of " + text, x.ahead(0, 1), want);
        Checks.due("10: the band from " + from + " of " + text, x.bars(1), want);
        Checks.due("10: from " + from + " of " + text, x.player(0, 0), want);
    }

    private static void pullIsCutAndBounded() {
        int[][] pulls = {{609, 600}, {610, 601}, {611, 601}, {591, 600}, {590, 599}, {589, 599}, {600, 600}};
        for (int[] p : pulls) {
            BandPace x = Checks.told("b0,0,0,60;ze;t60,0;t60,0;w0,1,1;");
            x.pace(1, p[0]);
            x.bars(1);
            Checks.due("10: who hears " + p[0] + " by 1", x.player(0, 0), p[1]);
        }
        String all = "b0,0,0,60;ze;t60,0;t60,0;t60,0;t60,0;t60,0;w0,1,9;w0,2,9;w0,3,9;w0,4,9;";
        BandPace up = Checks.told(all);
        BandPace down = Checks.told(all);
        for (int p = 0; p < 5; p++) {
            up.pace(p, p == 0 ? 300 : 2500);
            down.pace(p, p == 0 ? 2500 : 300);
        }
        Checks.due("10: 2500 at most by ears", up.bars(1), 2500);
        Checks.due("10: 300 at least by ears", down.bars(1), 300);
    }

    /** Half of what is between, and half of that half, each cut towards 0, from below and from above. */
    private static void nearerIsCut() {
        int[][] nearer = {{600, 600, 600}, {601, 601, 601}, {602, 601, 602}, {603, 602, 603}, {604, 602, 603},
            {607, 604, 606}, {608, 604, 606}, {599, 599, 599}, {598, 599, 598}, {597, 598, 597}, {596, 598, 597},
            {593, 596, 594}, {592, 596, 594}, {300, 450, 375}, {2500, 1550, 2025}};
        for (int[] n : nearer) {
            behindOneBar("b0,0,0,60;ze;k60,0;", n[0], n[1]);
            behindOneBar("b0,0,0,60;ze;l60,0;", n[0], n[2]);
            behindOneBar(Edges.STILL, n[0], n[0]);
        }
    }

    private static void pace() {
        Edges.range("11: player", FULL, (x, v) -> x.pace(v, 600), 0, 4);
        Edges.range("11: v", FULL, (x, v) -> x.pace(4, v), 300, 2500);
        Edges.refused("11: no band", BARE, x -> x.pace(0, 600), Checks.BAD);
        Edges.refused("11: no band, player -1", BARE, x -> x.pace(-1, 600), Checks.BAD);
        Edges.refused("11: the only player is 0", Edges.with(Edges.STILL), x -> x.pace(1, 600), Checks.BAD);
        BandPace x = Checks.told(Edges.STILL);
        Checks.due("11: the least", x.pace(0, 300), 600);
        Checks.due("11: the most", x.pace(0, 2500), 300);
        Checks.due("11: it was the most", x.pace(0, 300), 2500);
    }

    private static void hears() {
        Edges.range("12: i", FULL, (x, v) -> x.hears(v, 2, 5), 0, 4);
        Edges.range("12: j", FULL, (x, v) -> x.hears(2, v, 5), 0, 4);
        Edges.range("12: w", FULL, (x, v) -> x.hears(2, 1, v), 0, 9);
        for (int p = -1; p <= 5; p++) {
            int one = p;
            Edges.refused("12: alike, " + p, FULL, x -> x.hears(one, one, 5), Checks.BAD);
            Edges.refused("12: alike, " + p + ", by 0", FULL, x -> x.hears(one, one, 0), Checks.BAD);
        }
        Edges.refused("12: no band", BARE, x -> x.hears(0, 1, 1), Checks.BAD);
        Edges.refused("12: alone", Edges.with(Edges.STILL), x -> x.hears(0, 1, 1), Checks.BAD);
        BandPace x = Checks.told("b0,0,0,60;ze;t60,0;t70,0;");
        Checks.due("12: by the most", x.hears(0, 1, 9), 0);
        Checks.due("12: not at all, from the most", x.hears(0, 1, 0), 9);
        Checks.due("12: it did not", x.hears(0, 1, 1), 0);
        Checks.due("12: it did by 1", x.ear(0, 1), 1);
        x.hears(0, 1, 0);
        Checks.due("12: it hears nobody", x.player(0, 3), 0);
        Checks.due("12: it is not pulled", x.ahead(0, 1), 600);
    }

    private static void click() {
        Edges.range("13: CLICK", FULL, (x, v) -> x.click(v), 40, 99);
        for (int v : new int[]{39, 40, 99, 100, BIG, SMALL}) {
            Edges.refused("13: STATE ahead of BAD, " + v, BARE, x -> x.click(v), Checks.STATE);
        }
        BandPace x = Checks.told(Edges.STILL);
        Checks.due("13: the least", x.click(40), 60);
        Checks.due("13: the most", x.click(99), 40);
        Checks.due("13: it was the most", x.click(40), 99);
    }

    private static void claps() {
        Edges.range("14: c", FULL, (x, v) -> x.claps(v), 1, 99);
        for (int c : new int[]{0, 1, 99, 100, BIG, SMALL}) {
            Edges.refused("14: STATE ahead of BAD, " + c, BARE, x -> x.claps(c), Checks.STATE);
        }
        int[][] bounds = {{2400, 99, 2499}, {2401, 99, 2500}, {2402, 99, 2500}, {2498, 1, 2499}, {2499, 1, 2500},
            {2500, 1, 2500}, {2500, 99, 2500}, {300, 1, 301}, {300, 99, 399}};
        for (int[] b : bounds) {
            BandPace x = Checks.told("b0,0,0,60;ze;t60,0;t70,0;");
            x.pace(0, b[0]);
            Checks.due("14: " + b[0] + " and " + b[1], x.claps(b[1]), (b[2] + 700 + b[1]) / 2);
            Checks.due("14: " + b[0] + " and " + b[1], x.player(0, 0), b[2]);
            Checks.due("14: 700 and " + b[1], x.player(1, 0), 700 + b[1]);
            Checks.due("9: what was bounded is undone", x.undo(), 1);
            Checks.due("9: what was bounded is undone", x.player(0, 0), b[0]);
        }
    }

    private static void player() {
        Edges.range("15: player", FULL, (x, v) -> x.player(v, 0), 0, 4);
        Edges.range("15: what", FULL, (x, v) -> x.player(4, v), 0, 3);
        Edges.refused("15: no band", BARE, x -> x.player(0, 0), Checks.BAD);
        Edges.refused("15: the only player is 0", Edges.with(Edges.STILL), x -> x.player(1, 0), Checks.BAD);
        BandPace x = Checks.told(Checks.FIVE);
        for (int j = 1; j < 5; j++) {
            x.hears(0, j, j);
        }
        Checks.due("15: it hears all others", x.player(0, 3), 4);
    }

    private static void ear() {
        Edges.range("16: i", FULL, (x, v) -> x.ear(v, 2), 0, 4);
        Edges.range("16: j", FULL, (x, v) -> x.ear(2, v), 0, 4);
        for (int p = -1; p <= 5; p++) {
            int one = p;
            Edges.refused("16: alike, " + p, FULL, x -> x.ear(one, one), Checks.BAD);
        }
        Edges.refused("16: no band", BARE, x -> x.ear(0, 1), Checks.BAD);
        Edges.refused("16: alone", Edges.with(Edges.STILL), x -> x.ear(0, 1), Checks.BAD);
        Edges.taken("16: not at all", FULL, x -> x.ear(0, 4), 0);
    }

    private static void bar() {
        Edges.range("17: k of five", FULL, (x, v) -> x.bar(v), 0, 4);
        Edges.range("17: k of one", Edges.with(Edges.STILL), (x, v) -> x.bar(v), 0, 0);
        Edges.range("17: k of twelve", Edges.with("b0,0,0,60;zeeeeeeeeeeeh;t60,0;"), (x, v) -> x.bar(v), 0, 11);
        for (int k : new int[]{-1, 0, 11, 12}) {
            Edges.refused("17: no band, " + k, BARE, x -> x.bar(k), Checks.BAD);
        }
    }
}
