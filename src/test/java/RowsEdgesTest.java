/** Promises 1 to 5 and 39 at their edges: the last that is taken, the first that is not. */
public final class RowsEdgesTest {
    private static final int BIG = Edges.BIG, SMALL = Edges.SMALL;
    /** Eight rows of two items, shorts; status 4. */
    private static final Edges.Start EIGHT = x -> {
        Edges.bare(x);
        for (int row = 0; row < 8; row++) {
            x.row(row, 1, 2);
        }
        x.row(0, 1, -1);
    };

    public static void main(String[] args) {
        newObject();
        rowsAndLanes();
        sizes();
        itemsAtFirst();
        rowInPlaceOfAnother();
        setRowsAndPlaces();
        lanesKeepLowestBits();
        copyRows();
        copyLanes();
        copyPlaces();
        copyAsTheyWereAhead();
        drop();
        rowsCounted();
        statusOfEachCall();
        Checks.end("RowsEdgesTest");
    }

    private static void newObject() {
        BandPace x = new BandPace();
        for (int row = 0; row < 8; row++) {
            Checks.due("1: row " + row + " is missing at first", x.set(row, 0, 0), Checks.NULL);
        }
        Checks.due("1: row 8", x.set(8, 0, 0), Checks.BAD);
        BandPace y = new BandPace();
        Checks.due("39: 0, for there was no call with a ROW", y.status(), 0);
        for (int what = 0; what <= 8; what++) {
            Checks.due("1: count(" + what + ")", y.count(what), 0);
        }
        for (int k = 0; k < 2; k++) {
            Checks.due("1: no band is kept", y.image(k), Checks.STATE);
            Checks.due("1: none was kept", y.restore(k), Checks.STATE);
        }
        Checks.due("1: no player", y.player(0, 0), Checks.BAD);
        Checks.due("1: no act", y.undo(), Checks.STATE);
        Checks.due("1: no fault", y.fault(), 0);
        Checks.due("1: no trace", y.trace(0), Checks.NONE);
    }

    private static void rowsAndLanes() {
        Edges.range("2: ROW", Edges::full, (x, v) -> x.row(v, 1, 3), 0, 7);
        Edges.range("2: LANE", Edges::full, (x, v) -> x.row(2, v, 3), 0, 2);
        for (int row = 0; row < 8; row++) {
            int one = row;
            Edges.takenOfRow("2: row " + row, Edges::full, x -> x.row(one, 2, 9), 9);
        }
    }

    private static void sizes() {
        for (int lane = 0; lane < 3; lane++) {
            int one = lane;
            Edges.takenOfRow("2: none, lane " + lane, Edges::full, x -> x.row(0, one, 0), 0);
            Edges.takenOfRow("2: 40, lane " + lane, Edges::full, x -> x.row(0, one, 40), 40);
            Edges.refused("2: 41, lane " + lane, Edges::full, x -> x.row(0, one, 41), Checks.BAD);
            Edges.refused("2: far above, lane " + lane, Edges::full, x -> x.row(0, one, BIG), Checks.BAD);
            Edges.refused("2: one fewer than none, lane " + lane, Edges::full, x -> x.row(0, one, -1), Checks.SIZE);
            Edges.refused("2: far fewer, lane " + lane, Edges::full, x -> x.row(2, one, SMALL), Checks.SIZE);
        }
        Edges.refused("2: ROW -1 ahead of SIZE", Edges::full, x -> x.row(-1, 0, -1), Checks.BAD);
        Edges.refused("2: ROW 8 ahead of SIZE", Edges::full, x -> x.row(8, 0, -1), Checks.BAD);
        Edges.refused("2: LANE -1 ahead of SIZE", Edges::full, x -> x.row(0, -1, -1), Checks.BAD);
        Edges.refused("2: LANE 3 ahead of SIZE", Edges::full, x -> x.row(0, 3, -1), Checks.BAD);
    }

    private static void itemsAtFirst() {
        for (int row : new int[]{0, 7}) {
            BandPace x = new BandPace();
            x.row(row, 1, 40);
            for (int i = 0; i < 40; i++) {
                x.set(row, i, 1000 + i);
            }
            x.row(row, 1, 40);
            x.row(1, 1, 2);
            x.set(1, 1, 2500);
            for (int i = 0; i < 40; i++) {
                item("2: item " + i + " of row " + row + " is 0 at first", x, row, i, 0);
            }
        }
        BandPace y = new BandPace();
        y.row(0, 1, 3);
        y.set(0, 2, 77);
        y.drop(0);
        y.row(0, 1, 3);
        y.row(1, 1, 2);
        y.set(1, 1, 2500);
        item("2: 0 behind a row that was dropped", y, 0, 2, 0);
    }

    /** An item of 0 to 2500, shown by what is between it and 2500, which stands at 1 of row 1. */
    private static void item(String what, BandPace x, int row, int i, int want) {
        Checks.due(what + ", copied", x.copy(row, i, 1, 0, 1), 1);
        Checks.due(what, 2500 - x.songs(1, 0, 2, -1), want);
    }

    private static void rowInPlaceOfAnother() {
        BandPace x = new BandPace();
        x.row(0, 2, 40);
        Checks.due("2: a smaller one", x.row(0, 2, 3), 3);
        Checks.due("2: its last place", x.set(0, 2, 5), 5);
        Checks.due("2: no place of the one before", x.set(0, 3, 5), Checks.PLACE);
        Checks.due("2: of another lane", x.row(0, 0, 4), 4);
        Checks.due("2: of another lane", x.set(0, 3, 128), -128);
        Checks.due("2: one row yet", x.count(0), 1);
        Checks.due("2: what was found changed nothing", x.row(0, 1, -1), Checks.SIZE);
        Checks.due("2: the lane is as it was", x.set(0, 3, 129), -127);
        Checks.due("2: as many as there were", x.drop(0), 4);
    }

    private static void setRowsAndPlaces() {
        Edges.range("3: ROW", EIGHT, (x, v) -> x.set(v, 1, 9), 0, 7);
        Edges.takenOfRow("3: the first place", Edges::full, x -> x.set(0, 0, 9), 9);
        Edges.takenOfRow("3: the last of six", Edges::full, x -> x.set(0, 5, 9), 9);
        Edges.takenOfRow("3: the last of 40", Edges::full, x -> x.set(7, 39, 9), 9);
        Edges.refused("3: place -1", Edges::full, x -> x.set(0, -1, 9), Checks.PLACE);
        Edges.refused("3: place 6 of six", Edges::full, x -> x.set(0, 6, 9), Checks.PLACE);
        Edges.refused("3: place 40 of 40", Edges::full, x -> x.set(7, 40, 9), Checks.PLACE);
        Edges.refused("3: place -1 of row 7", Edges::full, x -> x.set(7, -1, 9), Checks.PLACE);
        Edges.refused("3: place 0 of none", Edges::full, x -> x.set(3, 0, 9), Checks.PLACE);
        Edges.refused("3: place -1 of none", Edges::full, x -> x.set(3, -1, 9), Checks.PLACE);
        Edges.refused("3: far place", Edges::full, x -> x.set(0, BIG, 9), Checks.PLACE);
        Edges.refused("3: far place below", Edges::full, x -> x.set(0, SMALL, 9), Checks.PLACE);
        Edges.refused("3: missing", Edges::full, x -> x.set(2, 0, 9), Checks.NULL);
        Edges.refused("3: NULL ahead of PLACE", Edges::full, x -> x.set(2, 40, 9), Checks.NULL);
        Edges.refused("3: NULL ahead of PLACE below", Edges::full, x -> x.set(2, -1, 9), Checks.NULL);
    }

    private static void lanesKeepLowestBits() {
        int[][] bytes = {{127, 127}, {128, -128}, {-128, -128}, {-129, 127}, {255, -1}, {256, 0}, {-256, 0},
            {BIG, -1}, {SMALL, 0}, {0x12345680, -128}};
        int[][] shorts = {{32767, 32767}, {32768, -32768}, {-32768, -32768}, {-32769, 32767}, {65535, -1},
            {65536, 0}, {128, 128}, {BIG, -1}, {SMALL, 0}, {0x12348000, -32768}};
        int[][] ints = {{BIG, BIG}, {SMALL, SMALL}, {-1, -1}, {65536, 65536}, {32768, 32768}, {128, 128}};
        int[][][] lanes = {bytes, shorts, ints};
        for (int lane = 0; lane < 3; lane++) {
            BandPace x = new BandPace();
            x.row(0, lane, 1);
            for (int[] pair : lanes[lane]) {
                Checks.due("3: lane " + lane + " keeps of " + pair[0], x.set(0, 0, pair[0]), pair[1]);
                boolean pace = pair[1] >= 0 && pair[1] <= 2500;
                Checks.due("3: it is that then, " + pair[0], x.songs(0, 0, 1, -1), pace ? 0 : Checks.BAD);
            }
        }
        BandPace y = new BandPace();
        Checks.fill(y, 0, 0, 100, 127);
        Checks.due("3: bytes", y.set(0, 0, 256 + 27), 27);
        Checks.due("3: as they are kept", y.songs(0, 0, 2, -1), 100);
        Checks.due("3: the next one is not touched", y.set(0, 1, 65536 + 100), 100);
        Checks.due("3: as they are kept", y.songs(0, 0, 2, -1), 73);
    }

    private static void copyRows() {
        Edges.range("4: ROW a", EIGHT, (x, v) -> x.copy(v, 0, 3, 0, 2), 0, 7);
        Edges.range("4: ROW b", EIGHT, (x, v) -> x.copy(3, 0, v, 0, 2), 0, 7);
        Edges.refused("4: a is missing", Edges::full, x -> x.copy(2, 0, 0, 0, 1), Checks.NULL);
        Edges.refused("4: b is missing", Edges::full, x -> x.copy(0, 0, 2, 0, 1), Checks.NULL);
        Edges.refused("4: both are missing", Edges::full, x -> x.copy(2, 0, 2, 0, 0), Checks.NULL);
        Edges.refused("4: BAD a ahead of NULL b", Edges::full, x -> x.copy(8, 0, 2, 0, 1), Checks.BAD);
        Edges.refused("4: BAD b ahead of NULL a", Edges::full, x -> x.copy(2, 0, -1, 0, 1), Checks.BAD);
        Edges.refused("4: BAD ahead of PLACE", Edges::full, x -> x.copy(0, -1, 8, 0, -1), Checks.BAD);
        Edges.refused("4: NULL a ahead of PLACE", Edges::full, x -> x.copy(2, -1, 0, -1, -1), Checks.NULL);
        Edges.refused("4: NULL b ahead of PLACE", Edges::full, x -> x.copy(0, 7, 2, 0, 1), Checks.NULL);
    }

    private static void copyLanes() {
        int[] ofLane = {1, 0, 7};
        for (int a = 0; a < 3; a++) {
            for (int b = 0; b < 3; b++) {
                int from = ofLane[a];
                int to = ofLane[b];
                String what = "4: lane " + a + " to lane " + b;
                if (a == b) {
                    Edges.takenOfRow(what, Edges::full, x -> x.copy(from, 0, to, 0, 1), 1);
                } else {
                    Edges.refused(what, Edges::full, x -> x.copy(from, 0, to, 0, 1), Checks.STORE);
                    Edges.refused(what + ", nothing", Edges::full, x -> x.copy(from, 0, to, 0, 0), Checks.STORE);
                    Edges.refused(what + ", ahead of PLACE", Edges::full, x -> x.copy(from, -1, to, 0, 1), Checks.STORE);
                    Edges.refused(what + ", far ahead of it", Edges::full, x -> x.copy(from, 0, to, 0, BIG), Checks.STORE);
                }
            }
        }
    }

    /** Row 0 has six items, row 4 three, of one lane. */
    private static void copyPlaces() {
        Edges.takenOfRow("4: up to both ends", Edges::full, x -> x.copy(0, 3, 4, 0, 3), 3);
        Edges.takenOfRow("4: nothing, from the end of a", Edges::full, x -> x.copy(0, 6, 4, 0, 0), 0);
        Edges.takenOfRow("4: nothing, to the end of b", Edges::full, x -> x.copy(0, 0, 4, 3, 0), 0);
        Edges.takenOfRow("4: nothing of nothing", Edges::full, x -> x.copy(3, 0, 3, 0, 0), 0);
        Edges.takenOfRow("4: the last one", Edges::full, x -> x.copy(0, 5, 4, 2, 1), 1);
        Edges.takenOfRow("4: all of 40", Edges::full, x -> x.copy(7, 0, 7, 0, 40), 40);
        int[][] beyond = {{4, 0, 3}, {0, 1, 3}, {7, 0, 0}, {0, 4, 0}, {6, 0, 1}, {0, 3, 1}, {-1, 0, 1}, {-1, 0, 0},
            {0, -1, 1}, {0, -1, 0}, {0, 0, -1}, {3, 0, -1}, {0, 0, 4}, {BIG, 0, 1}, {0, BIG, 1}, {1, 1, BIG},
            {BIG, BIG, BIG}, {SMALL, 0, 1}, {0, SMALL, 1}, {0, 0, SMALL}, {1, 1, SMALL}, {SMALL, SMALL, SMALL}};
        for (int[] p : beyond) {
            String what = "4: from " + p[0] + " to " + p[1] + ", " + p[2];
            Edges.refused(what, Edges::full, x -> x.copy(0, p[0], 4, p[1], p[2]), Checks.PLACE);
        }
        Edges.refused("4: 41 of 40", Edges::full, x -> x.copy(7, 0, 7, 0, 41), Checks.PLACE);
        Edges.refused("4: one of none", Edges::full, x -> x.copy(3, 0, 7, 0, 1), Checks.PLACE);
        Edges.refused("4: one to none", Edges::full, x -> x.copy(7, 0, 3, 0, 1), Checks.PLACE);
    }

    private static void copyAsTheyWereAhead() {
        for (int shift = -2; shift <= 2; shift++) {
            BandPace x = new BandPace();
            Checks.fill(x, 0, 1, 10, 20, 40, 80, 160, 320, 640, 1280);
            x.row(1, 1, 2);
            x.set(1, 1, 2500);
            int[] was = {10, 20, 40, 80, 160, 320, 640, 1280};
            int[] due = was.clone();
            for (int k = 0; k < 4; k++) {
                due[2 + shift + k] = was[2 + k];
            }
            int to = 2 + shift;
            Checks.due("4: over itself by " + shift, x.copy(0, 2, 0, to, 4), 4);
            for (int i = 0; i < 8; i++) {
                item("4: over itself by " + shift + ", item " + i, x, 0, i, due[i]);
            }
        }
    }

    private static void drop() {
        Edges.range("5: ROW", EIGHT, (x, v) -> x.drop(v), 0, 7);
        Edges.takenOfRow("5: six items", Edges::full, x -> x.drop(0), 6);
        Edges.takenOfRow("5: 40 items", Edges::full, x -> x.drop(7), 40);
        Edges.takenOfRow("5: none", Edges::full, x -> x.drop(3), 0);
        Edges.refused("5: missing", Edges::full, x -> x.drop(2), Checks.NULL);
        for (int row = 0; row < 8; row++) {
            BandPace x = Edges.made(EIGHT);
            Checks.due("5: row " + row, x.drop(row), 2);
            Checks.due("5: missing from now on, row " + row, x.drop(row), Checks.NULL);
            Checks.due("5: no place of it, row " + row, x.set(row, 0, 1), Checks.NULL);
            for (int other = 0; other < 8; other++) {
                Checks.due("5: others stay, row " + other, x.set(other, 0, 1), other == row ? Checks.NULL : 1);
            }
        }
    }

    private static void rowsCounted() {
        BandPace x = new BandPace();
        for (int row = 7; row >= 0; row--) {
            x.row(row, 0, 0);
            Checks.due("38: rows from " + row + " on", x.count(0), 8 - row);
        }
        x.row(3, 1, 40);
        Checks.due("38: in place of one", x.count(0), 8);
        x.row(3, 1, 41);
        x.row(3, 1, -1);
        Checks.due("38: refused", x.count(0), 8);
        for (int row = 0; row < 8; row++) {
            x.drop(row);
            Checks.due("38: rows beyond " + row, x.count(0), 7 - row);
        }
        x.drop(0);
        Checks.due("38: none", x.count(0), 0);
    }

    /** Each call with a ROW, and as(), found and not; what has neither leaves status(). */
    private static void statusOfEachCall() {
        BandPace x = Edges.made(Edges::full);
        status("row SIZE", x, x.row(0, 0, -1), 4);
        status("row", x, x.row(2, 1, 1), 0);
        status("set NULL", x, x.set(5, 0, 0), 1);
        status("set PLACE", x, x.set(2, 1, 0), 2);
        status("set", x, x.set(2, 0, 0), 0);
        status("copy STORE", x, x.copy(2, 0, 1, 0, 1), 5);
        status("copy PLACE", x, x.copy(2, 0, 0, 0, 2), 2);
        status("copy NULL", x, x.copy(2, 0, 5, 0, 2), 1);
        status("copy", x, x.copy(2, 0, 0, 0, 1), 0);
        status("drop NULL", x, x.drop(5), 1);
        status("drop", x, x.drop(2), 0);
        status("dancers NULL", x, x.dancers(5, 0, 1, 0, 0), 1);
        status("dancers PLACE", x, x.dancers(0, 5, 1, 0, 0), 2);
        status("dancers", x, x.dancers(0, 4, 1, 0, 0), 0);
        status("as KIND", x, x.as(0, 5), 3);
        status("as", x, x.as(0, 0), 0);
        status("whoPushed PLACE", x, x.whoPushed(0, 2, 0), 2);
        status("whoPushed NULL", x, x.whoPushed(5, 0, 0), 1);
        status("whoPushed", x, x.whoPushed(0, 1, 0), 0);
        status("songs PLACE", x, x.songs(0, 6, 1, 0), 2);
        status("songs NULL", x, x.songs(5, 6, 1, 0), 1);
        status("songs", x, x.songs(0, 5, 1, 0), 0);
        status("as KIND again", x, x.as(3, 1), 3);
        x.set(0, 0, -1);
        status("as KIND anew", x, x.as(3, 1), 3);
        status("songs BAD by an ITEM leaves it", x, x.songs(0, 0, 1, 0), 3);
        status("ask leaves it", x, x.ask(0, 0), 3);
        status("bars leaves it", x, x.bars(1), 3);
        status("restore leaves it", x, x.restore(0), 3);
        status("undo STATE leaves it", x, x.undo(), 3);
        status("status leaves it", x, x.status(), 3);
        status("band of a fault leaves it", x, x.band(), 3);
        status("band leaves it", x, Checks.read(x, Edges.STILL), 3);
    }

    private static void status(String call, BandPace x, int answer, int want) {
        Checks.due("39: behind " + call + " that answered " + answer, x.status(), want);
    }
}
