/** Promises 1 to 5 and 39: a new object, rows, what was found. */
public final class RowsTest {
    private static final int BIG = Integer.MAX_VALUE, SMALL = Integer.MIN_VALUE;

    public static void main(String[] args) {
        newObject();
        row();
        set();
        copy();
        drop();
        status();
        Checks.end("RowsTest");
    }

    private static void newObject() {
        BandPace x = new BandPace();
        for (int what = 0; what <= 8; what++) {
            Checks.due("1: count(" + what + ")", x.count(what), 0);
        }
        Checks.due("1: drift", x.drift(), Checks.STATE);
        Checks.due("1: undo", x.undo(), Checks.STATE);
        Checks.due("1: fault", x.fault(), 0);
        Checks.due("1: status", x.status(), 0);
        Checks.due("1: trace", x.trace(0), Checks.NONE);
        Checks.due("1: restore", x.restore(0), Checks.STATE);
        Checks.due("1: NONE", BandPace.NONE, -1000000);
        Checks.due("1: BAD", BandPace.BAD, -1000001);
        Checks.due("1: STATE", BandPace.STATE, -1000002);
        Checks.due("1: FULL", BandPace.FULL, -1000003);
    }

    private static void row() {
        BandPace x = new BandPace();
        Checks.due("2: no items", x.row(0, 0, 0), 0);
        Checks.due("2: all items", x.row(7, 2, 40), 40);
        Checks.due("2: two rows", x.count(0), 2);
        Checks.due("2: row 8", x.row(8, 0, 1), Checks.BAD);
        Checks.due("2: row -1", x.row(-1, 0, 1), Checks.BAD);
        Checks.due("2: lane 3", x.row(0, 3, 1), Checks.BAD);
        Checks.due("2: lane -1", x.row(0, -1, 1), Checks.BAD);
        Checks.due("2: 41 items", x.row(0, 0, 41), Checks.BAD);
        Checks.due("2: fewer than none", x.row(0, 0, -1), Checks.SIZE);
        Checks.due("2: far fewer", x.row(0, 0, SMALL), Checks.SIZE);
        Checks.due("2: BAD is ahead of SIZE", x.row(8, 0, -1), Checks.BAD);
        Checks.due("2: BAD lane is ahead of SIZE", x.row(0, 3, -1), Checks.BAD);
        Checks.due("2: what was found changed nothing", x.drop(0), 0);
        Checks.fill(x, 1, 2, 5, 6, 7);
        Checks.due("2: a row in place of one", x.row(1, 2, 3), 3);
        x.row(2, 2, 1);
        Checks.due("2: its items are 0", x.copy(1, 0, 2, 0, 1), 1);
        Checks.due("2: all of them", x.songs(1, 0, 3, -1), 0);
        x.set(1, 1, 5);
        Checks.due("2: 0 and 5", x.songs(1, 0, 2, -1), 5);
    }

    private static void set() {
        BandPace x = new BandPace();
        Checks.due("3: missing", x.set(0, 0, 1), Checks.NULL);
        Checks.due("3: no row", x.set(8, 0, 1), Checks.BAD);
        Checks.due("3: no row", x.set(-1, 0, 1), Checks.BAD);
        x.row(0, 0, 2);
        x.row(1, 1, 2);
        x.row(2, 2, 2);
        Checks.due("3: byte 127", x.set(0, 0, 127), 127);
        Checks.due("3: byte 128", x.set(0, 0, 128), -128);
        Checks.due("3: byte 256", x.set(0, 1, 256), 0);
        Checks.due("3: byte -129", x.set(0, 1, -129), 127);
        Checks.due("3: short 32767", x.set(1, 0, 32767), 32767);
        Checks.due("3: short 32768", x.set(1, 0, 32768), -32768);
        Checks.due("3: short 65537", x.set(1, 1, 65537), 1);
        Checks.due("3: int", x.set(2, 0, BIG), BIG);
        Checks.due("3: int", x.set(2, 1, SMALL), SMALL);
        Checks.due("3: place 2", x.set(0, 2, 1), Checks.PLACE);
        Checks.due("3: place -1", x.set(0, -1, 1), Checks.PLACE);
        Checks.due("3: far place", x.set(0, BIG, 1), Checks.PLACE);
        Checks.due("3: far place", x.set(0, SMALL, 1), Checks.PLACE);
        x.row(3, 0, 0);
        Checks.due("3: no place at all", x.set(3, 0, 1), Checks.PLACE);
    }

    /** Items are looked at through songs: how much is between two of them. */
    private static void copy() {
        BandPace x = new BandPace();
        Checks.fill(x, 0, 1, 10, 21, 33, 46, 60);
        Checks.due("4: over itself, onwards", x.copy(0, 0, 0, 1, 4), 4);
        between(x, 0, 0, 0);
        between(x, 0, 1, 11);
        between(x, 0, 2, 12);
        between(x, 0, 3, 13);
        Checks.fill(x, 0, 1, 10, 21, 33, 46, 60);
        Checks.due("4: over itself, backwards", x.copy(0, 1, 0, 0, 4), 4);
        between(x, 0, 0, 12);
        between(x, 0, 1, 13);
        between(x, 0, 2, 14);
        between(x, 0, 3, 0);
        Checks.fill(x, 1, 1, 1, 2, 3);
        Checks.due("4: to another", x.copy(0, 2, 1, 1, 2), 2);
        between(x, 1, 0, 45);
        between(x, 1, 1, 14);
        copyRefused(x);
    }

    private static void copyRefused(BandPace x) {
        Checks.due("4: nothing, at the ends", x.copy(0, 5, 1, 3, 0), 0);
        Checks.due("4: row 8", x.copy(8, 0, 0, 0, 0), Checks.BAD);
        Checks.due("4: row -1", x.copy(0, 0, -1, 0, 0), Checks.BAD);
        Checks.due("4: BAD ahead of NULL", x.copy(7, 0, 8, 0, 0), Checks.BAD);
        Checks.due("4: a missing", x.copy(7, 0, 0, 0, 0), Checks.NULL);
        Checks.due("4: b missing", x.copy(0, 0, 7, 0, 0), Checks.NULL);
        x.row(2, 2, 5);
        Checks.due("4: two lanes", x.copy(0, 0, 2, 0, 1), Checks.STORE);
        Checks.due("4: STORE ahead of PLACE", x.copy(0, -1, 2, 0, 99), Checks.STORE);
        Checks.due("4: i below 0", x.copy(0, -1, 1, 0, 1), Checks.PLACE);
        Checks.due("4: j below 0", x.copy(0, 0, 1, -1, 1), Checks.PLACE);
        Checks.due("4: n below 0", x.copy(0, 0, 1, 0, -1), Checks.PLACE);
        Checks.due("4: beyond a's end", x.copy(0, 4, 1, 0, 2), Checks.PLACE);
        Checks.due("4: beyond b's end", x.copy(0, 0, 1, 2, 2), Checks.PLACE);
        Checks.due("4: i far", x.copy(0, BIG, 1, 0, 1), Checks.PLACE);
        Checks.due("4: n far", x.copy(0, 1, 1, 1, BIG), Checks.PLACE);
        Checks.due("4: all far", x.copy(0, BIG, 1, BIG, BIG), Checks.PLACE);
        Checks.due("4: n far below", x.copy(0, 0, 1, 0, SMALL), Checks.PLACE);
    }

    private static void between(BandPace x, int row, int i, int want) {
        Checks.due("4: between " + i + " and the next of row " + row, x.songs(row, i, 2, -1), want);
    }

    private static void drop() {
        BandPace x = new BandPace();
        x.row(3, 1, 17);
        Checks.due("5: no row", x.drop(8), Checks.BAD);
        Checks.due("5: no row", x.drop(-1), Checks.BAD);
        Checks.due("5: missing", x.drop(2), Checks.NULL);
        Checks.due("5: 17 items", x.drop(3), 17);
        Checks.due("5: missing then", x.drop(3), Checks.NULL);
        Checks.due("5: no rows", x.count(0), 0);
    }

    private static void status() {
        BandPace x = new BandPace();
        x.drop(0);
        Checks.due("39: NULL", x.status(), 1);
        x.drop(9);
        Checks.due("39: BAD leaves it", x.status(), 1);
        x.row(0, 1, 2);
        Checks.due("39: none", x.status(), 0);
        x.set(0, 2, 0);
        Checks.due("39: PLACE", x.status(), 2);
        x.dancers(0, 9, 1, 0, 0);
        Checks.due("39: STATE leaves it", x.status(), 2);
        x.row(0, 1, -1);
        Checks.due("39: SIZE", x.status(), 4);
        x.row(1, 2, 2);
        x.copy(0, 0, 1, 0, 1);
        Checks.due("39: STORE", x.status(), 5);
        x.set(0, 0, -1);
        x.drop(7);
        x.songs(0, 0, 1, 0);
        Checks.due("39: an item that is BAD leaves it", x.status(), 1);
        x.songs(0, 1, 1, 0);
        Checks.due("39: songs without a finding", x.status(), 0);
        statusOfBand(x);
    }

    private static void statusOfBand(BandPace x) {
        Checks.read(x, Checks.FIVE);
        x.as(0, 4);
        Checks.due("39: KIND", x.status(), 3);
        x.as(0, 6);
        x.as(5, 0);
        x.bars(1);
        x.kind(0);
        x.feed(300);
        Checks.due("39: other calls leave it", x.status(), 3);
        x.as(0, 1);
        Checks.due("39: as without a finding", x.status(), 0);
        x.dancers(2, 0, 1, 0, 0);
        Checks.due("39: dancers NULL", x.status(), 1);
        x.dancers(0, 0, 2, 0, 0);
        Checks.due("39: dancers PLACE", x.status(), 2);
        x.dancers(0, 0, 1, 0, 0);
        Checks.due("39: dancers without a finding", x.status(), 0);
        x.whoPushed(2, 0, 0);
        Checks.due("39: whoPushed NULL", x.status(), 1);
        x.whoPushed(0, 0, 0);
        Checks.due("39: whoPushed PLACE", x.status(), 2);
        x.row(3, 1, 5);
        x.drop(7);
        x.whoPushed(3, 0, 0);
        Checks.due("39: whoPushed without a finding", x.status(), 0);
        x.songs(2, 0, 1, 0);
        Checks.due("39: songs NULL", x.status(), 1);
        x.songs(0, 2, 1, 0);
        Checks.due("39: songs PLACE", x.status(), 2);
    }
}
