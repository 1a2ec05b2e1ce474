/** What the project's tests share: answers compared with those that are due, bands told by a text. */
final class Checks {
    static final int NONE = -1000000, BAD = -1000001, STATE = -1000002, FULL = -1000003;
    static final int NULL = -1000011, PLACE = -1000012, KIND = -1000013, SIZE = -1000014, STORE = -1000015;

    /** One of each kind, one bar of each sort; its paces behind each bar stand in PlayedTest, reckoned by hand. */
    static final String FIVE = "b6,4,5,62;zefqch;t60,1;r61,2;d59,0;k62,0;l60,3;w0,1,5;w1,0,4;w2,3,3;";

    private static int wrong = 0;
    private static int compared = 0;

    private Checks() {
    }

    static void due(String call, long got, long want) {
        compared++;
        if (got != want) {
            wrong++;
            if (wrong <= 50) {
                System.out.println(call + " answered " + got + ", due is " + want);
            }
        }
    }

    static int read(BandPace x, String text) {
        for (int i = 0; i < text.length(); i++) {
            due("feed of byte " + i + " of " + text, x.feed(text.charAt(i)), i + 1);
        }
        return x.band();
    }

    static BandPace told(String text) {
        BandPace x = new BandPace();
        if (read(x, text) < 1) {
            due("a band read from " + text, x.fault(), 0);
        }
        return x;
    }

    static void fill(BandPace x, int row, int lane, int... items) {
        due("row " + row, x.row(row, lane, items.length), items.length);
        for (int i = 0; i < items.length; i++) {
            due("set " + i + " of row " + row, x.set(row, i, items[i]), items[i]);
        }
    }

    static void paces(String when, BandPace x, int... want) {
        for (int p = 0; p < want.length; p++) {
            due(when + ": pace of " + p, x.player(p, 0), want[p]);
        }
    }

    static void end(String name) {
        System.out.println(name + ": " + compared + " answers, " + wrong + " not as due");
        if (wrong != 0 || compared == 0) {
            System.exit(1);
        }
    }
}
