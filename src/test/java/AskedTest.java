/** Promises 34 to 38: kinds, asks, the trace, counts. */
public final class AskedTest {
    public static void main(String[] args) {
        kind();
        as();
        ask();
        askAnew();
        count();
        Checks.end("AskedTest");
    }

    private static void kind() {
        BandPace x = new BandPace();
        Checks.due("34: no band", x.kind(0), Checks.BAD);
        Checks.read(x, Checks.FIVE);
        for (int p = 0; p < 5; p++) {
            Checks.due("34: kind of " + p, x.kind(p), p + 1);
        }
        Checks.due("34: player 5", x.kind(5), Checks.BAD);
        Checks.due("34: player -1", x.kind(-1), Checks.BAD);
    }

    private static void as() {
        BandPace x = new BandPace();
        Checks.due("35: no band", x.as(0, 0), Checks.BAD);
        Checks.read(x, Checks.FIVE);
        String[] are = {"01", "012", "013", "04", "045"};
        for (int p = 0; p < 5; p++) {
            for (int kind = 0; kind <= 5; kind++) {
                boolean is = are[p].indexOf('0' + kind) >= 0;
                Checks.due("35: " + p + " as " + kind, x.as(p, kind), is ? p : Checks.KIND);
                Checks.due("35: status of " + p + " as " + kind, x.status(), is ? 0 : 3);
            }
        }
        Checks.due("35: kind 6", x.as(0, 6), Checks.BAD);
        Checks.due("35: kind -1", x.as(0, -1), Checks.BAD);
        Checks.due("35: player 5", x.as(5, 0), Checks.BAD);
        Checks.due("35: player -1", x.as(-1, 0), Checks.BAD);
    }

    /** Paces 600, 610, 590, 620, 600; hastes 1, 2, 0, 0, 3. */
    private static void ask() {
        BandPace x = new BandPace();
        Checks.due("36: no band", x.ask(0, 0), Checks.BAD);
        Checks.read(x, Checks.FIVE);
        asked(x, 0, 0, 601, 11, 10, 21, 20);
        asked(x, 0, 1, 1, 21, 20);
        asked(x, 1, 0, -(610 + 2 * (1 + 2)), 12, 11, 10, 24, 21, 20);
        asked(x, 1, 1, 6, 24, 21, 20);
        asked(x, 2, 0, 590 + 2 - 1000, 11, 10, 22, 21, 20);
        asked(x, 2, 1, 2 - 1000, 22, 21, 20);
        asked(x, 3, 0, 520, 13, 10);
        asked(x, 3, 1, 3 - 520, 23, 20, 13, 10);
        asked(x, 4, 0, 1000, 14, 13, 10);
        asked(x, 4, 1, 4 - 1000, 23, 20, 14, 13, 10);
        Checks.due("36: what 2", x.ask(0, 2), Checks.BAD);
        Checks.due("36: what -1", x.ask(0, -1), Checks.BAD);
        Checks.due("36: player 5", x.ask(5, 0), Checks.BAD);
        Checks.due("36: player -1", x.ask(-1, 0), Checks.BAD);
        Checks.due("37: what is refused leaves the trace", x.trace(0), 23);
        Checks.due("37: below", x.trace(-1), Checks.NONE);
        Checks.due("37: far", x.trace(Integer.MAX_VALUE), Checks.NONE);
        Checks.due("37: far below", x.trace(Integer.MIN_VALUE), Checks.NONE);
    }

    private static void askAnew() {
        BandPace x = Checks.told(Checks.FIVE);
        x.bars(1);
        asked(x, 1, 0, -(608 + 6), 12, 11, 10, 24, 21, 20);
        x.pace(4, 2500);
        asked(x, 4, 0, 4800, 14, 13, 10);
        Checks.read(x, "b0,0,0,60;ze;k60,0;");
        Checks.due("37: a band that is read leaves the trace", x.trace(2), 10);
        asked(x, 0, 1, 0 - 500, 23, 20, 13, 10);
    }

    private static void asked(BandPace x, int one, int what, int want, int... trace) {
        Checks.due("36: ask " + what + " of " + one, x.ask(one, what), want);
        for (int i = 0; i < trace.length; i++) {
            Checks.due("37: trace " + i + " of ask " + what + " of " + one, x.trace(i), trace[i]);
        }
        Checks.due("37: behind the trace", x.trace(trace.length), Checks.NONE);
    }

    private static void count() {
        BandPace x = Checks.told(Checks.FIVE);
        x.row(0, 0, 0);
        x.row(5, 1, 3);
        x.row(7, 1, 3);
        x.drop(5);
        x.bars(7);
        x.feed('b');
        int[] want = {2, 5, 5, 2, 7, x.ahead(-1, 0), 62, 7, 1};
        for (int what = 0; what <= 8; what++) {
            Checks.due("38: count(" + what + ")", x.count(what), want[what]);
        }
        Checks.due("38: what 9", x.count(9), Checks.BAD);
        Checks.due("38: what -1", x.count(-1), Checks.BAD);
        BandPace y = Checks.told("b0,0,0,60;ze;t60,0;t61,0;t61,0;");
        Checks.due("38: the pace of the band is cut", y.count(5), 606);
    }
}
