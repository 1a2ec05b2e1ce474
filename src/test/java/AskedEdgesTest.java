/** Promises 34 to 38 at their edges: kinds, asks, the trace, counts. */
public final class AskedEdgesTest {
    private static final int BIG = Edges.BIG, SMALL = Edges.SMALL;
    private static final Edges.Start FULL = Edges::full, BARE = Edges::bare, STILL = Edges.with(Edges.STILL);

    public static void main(String[] args) {
        kind();
        as();
        ask();
        trace();
        traceStays();
        count();
        countsAtTheirMost();
        Checks.end("AskedEdgesTest");
    }

    private static void kind() {
        Edges.range("34: player", FULL, (x, v) -> x.kind(v), 0, 4);
        Edges.range("34: player of one", STILL, (x, v) -> x.kind(v), 0, 0);
        for (int p : new int[]{-1, 0, 1}) {
            Edges.refused("34: no band, " + p, BARE, x -> x.kind(p), Checks.BAD);
        }
        for (int p = 0; p < 5; p++) {
            int one = p;
            Edges.foretold("34: kind of " + p, FULL, x -> x.kind(one), p + 1);
        }
    }

    private static void as() {
        Edges.range("35: player", FULL, (x, v) -> x.as(v, 0), 0, 4);
        Edges.range("35: KIND of a leader, the last", FULL, (x, v) -> x.as(4, v), 0, 5);
        Edges.range("35: player of one", STILL, (x, v) -> x.as(v, 1), 0, 0);
        Edges.refused("35: no band", BARE, x -> x.as(0, 0), Checks.BAD);
        Edges.refused("35: no band, no kind", BARE, x -> x.as(0, 6), Checks.BAD);
        Edges.refused("35: BAD player ahead of KIND", FULL, x -> x.as(5, 5), Checks.BAD);
        String[] are = {"01", "012", "013", "04", "045"};
        for (int p = 0; p < 5; p++) {
            for (int kind = 0; kind <= 5; kind++) {
                int one = p;
                int other = kind;
                if (are[p].indexOf('0' + kind) >= 0) {
                    Edges.foretold("35: " + p + " as " + kind, FULL, x -> x.as(one, other), p);
                    Edges.takenOfRow("35: " + p + " as " + kind, FULL, x -> x.as(one, other), p);
                } else {
                    Edges.refused("35: " + p + " as " + kind, FULL, x -> x.as(one, other), Checks.KIND);
                }
            }
        }
    }

    private static void ask() {
        Edges.range("36: player", FULL, (x, v) -> x.ask(v, 0), 0, 4);
        Edges.range("36: player of one", STILL, (x, v) -> x.ask(v, 1), 0, 0);
        Edges.range("36: what", FULL, (x, v) -> x.ask(4, v), 0, 1);
        Edges.refused("36: no band", BARE, x -> x.ask(0, 0), Checks.BAD);
        Edges.refused("36: no band", BARE, x -> x.ask(0, 1), Checks.BAD);
        BandPace x = Checks.told(Checks.FIVE);
        for (int p = 0; p < 5; p++) {
            x.pace(p, 2500);
        }
        int[] sizes = {2501, -2506, 2502 - 1000, 2400, 4800};
        int[] marks = {1, 6, 2 - 1000, 3 - 2400, 4 - 4800};
        for (int p = 0; p < 5; p++) {
            Checks.due("36: SIZE at the most of " + p, x.ask(p, 0), sizes[p]);
            Checks.due("36: MARK at the most of " + p, x.ask(p, 1), marks[p]);
            x.pace(p, 300);
        }
        Checks.due("36: SIZE at the least of a leader", x.ask(4, 0), 400);
        Checks.due("36: MARK at the least of one with a click", x.ask(3, 1), 3 - 200);
    }

    /** The longest trace has six numbers, so the bound of 16 is never come to. */
    private static void trace() {
        int[] sizes = {4, 6, 5, 2, 3};
        int[] marks = {2, 3, 3, 4, 5};
        for (int p = 0; p < 5; p++) {
            for (int what = 0; what <= 1; what++) {
                BandPace x = Checks.told(Checks.FIVE);
                x.ask(p, what);
                int length = what == 0 ? sizes[p] : marks[p];
                String of = " of ask " + what + " of " + p;
                Checks.due("37: the first is told (1)" + of, x.trace(0) > 0 ? 1 : 0, 1);
                Checks.due("37: the last is told (1)" + of, x.trace(length - 1) > 0 ? 1 : 0, 1);
                for (int i : new int[]{-1, length, 15, 16, 17, BIG, SMALL}) {
                    Checks.due("37: number " + i + of, x.trace(i), Checks.NONE);
                }
            }
        }
        for (int i : new int[]{-1, 0, 15, 16, BIG, SMALL}) {
            Checks.due("37: no ask, number " + i, new BandPace().trace(i), Checks.NONE);
        }
        BandPace y = Checks.told(Checks.FIVE);
        y.ask(1, 0);
        y.ask(3, 0);
        int[] due = {13, 10, Checks.NONE, Checks.NONE, Checks.NONE, Checks.NONE};
        for (int i = 0; i < due.length; i++) {
            Checks.due("36: empty ahead of an ask, number " + i, y.trace(i), due[i]);
        }
    }

    private static void traceStays() {
        BandPace x = Edges.made(FULL);
        x.ask(5, 0);
        x.ask(0, 2);
        x.ask(-1, -1);
        x.kind(0);
        x.as(0, 1);
        x.as(0, 2);
        x.bars(1);
        x.undo();
        x.restore(0);
        x.band();
        int[] due = {12, 11, 10, 24, 21, 20, Checks.NONE};
        for (int i = 0; i < due.length; i++) {
            Checks.due("37: it stays till an ask is answered, number " + i, x.trace(i), due[i]);
        }
    }

    private static void count() {
        Edges.range("38: what", FULL, (x, v) -> x.count(v), 0, 8);
        Edges.range("38: what, no band", BARE, (x, v) -> x.count(v), 0, 8);
        int[] bare = {5, 0, 0, 0, 0, 0, 0, 0, 2};
        for (int what = 0; what <= 8; what++) {
            int one = what;
            Edges.foretold("38: no band, count " + what, BARE, x -> x.count(one), bare[what]);
        }
        int[] full = {5, 5, 5, 4, 4, 0, 70, 8, 2};
        for (int what = 0; what <= 8; what++) {
            int one = what;
            if (what != 5) {
                Edges.foretold("38: count " + what, FULL, x -> x.count(one), full[what]);
            }
        }
    }

    private static void countsAtTheirMost() {
        BandPace x = Checks.told("b0,0,0,99;zeeeeeeeeeeee;t99,9;t99,9;t99,9;t99,9;t99,9;");
        for (int row = 0; row < 8; row++) {
            x.row(row, 2, 40);
        }
        for (int k = 0; k < 41; k++) {
            x.bars(24);
        }
        x.bars(11);
        x.click(99);
        for (int k = 0; k < 140; k++) {
            x.feed('x');
        }
        int[] due = {8, 5, 12, 11, 995, 2500, 99, 24, 140};
        for (int what = 0; what <= 8; what++) {
            Checks.due("38: at the most, count " + what, x.count(what), due[what]);
        }
        x.bars(4);
        Checks.due("38: 999 are gone", x.count(4), 999);
        Checks.due("38: one is refused", x.bars(1), Checks.FULL);
        Checks.due("38: 999 are gone yet", x.count(4), 999);
        BandPace low = Checks.told("b0,20,0,40;zq;d40,0;");
        low.bars(24);
        Checks.due("38: the least pace", low.count(5), 300);
        low.click(40);
        Checks.due("38: the least click", low.count(6), 40);
    }
}
