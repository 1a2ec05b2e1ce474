/** Promises 6 to 8 at their edges: bytes, tokens, numbers, how many there is room for, faults. */
public final class TextsEdgesTest {
    private static final String LAW = "b1,2,3,60;", SONG = "ze;", TWO = "t60,0;r61,1;";
    private static final String ALL = "t60,0;r61,1;d62,2;k63,3;l64,4;";
    /** As many ears as there is room for, of four players: each of them hears each other one. */
    private static final String EARS =
        "w0,1,1;w0,2,2;w0,3,3;w1,0,4;w1,2,5;w1,3,6;w2,0,7;w2,1,8;w2,3,9;w3,0,1;w3,1,2;w3,2,3;";
    /** 140 bytes: 12 bars, five players, 12 ears. */
    private static final String WHOLE = "b1,20,20,99;zfefqchefqche;t99,9;r40,0;d60,1;k61,2;l62,3;" + EARS;

    public static void main(String[] args) {
        bytes();
        tapeIsFull();
        tapeOf140();
        tapeEmptyThen();
        law();
        click();
        song();
        players();
        paceAndHaste();
        ears();
        whoHearsWhom();
        figures();
        endsOfText();
        signsOutside();
        wrongPlaces();
        leastOfOneToken();
        firstOfTwoTokens();
        allStays();
        latestFault();
        inPlaceOfTheOneBefore();
        Checks.end("TextsEdgesTest");
    }

    private static void good(String text, int players) {
        BandPace x = new BandPace();
        Checks.due("7: " + text, Checks.read(x, text), players);
        Checks.due("8: no fault of " + text, x.fault(), 0);
        Checks.due("7: players of " + text, x.count(1), players);
    }

    private static void bad(String text, int place, int fault) {
        BandPace x = new BandPace();
        Checks.due("7: " + text, Checks.read(x, text), -1000100 - place);
        Checks.due("8: fault of " + text, x.fault(), fault);
        Checks.due("7: no band by " + text, x.count(1), 0);
    }

    private static void bytes() {
        Edges.range("6: a byte", Edges::full, (x, v) -> x.feed(v), 0, 255);
        for (int half = 0; half < 2; half++) {
            BandPace x = new BandPace();
            for (int v = 0; v < 128; v++) {
                Checks.due("6: byte " + (128 * half + v), x.feed(128 * half + v), v + 1);
            }
        }
        Edges.taken("6: behind two others", Edges::full, x -> x.feed('2'), 3);
    }

    /** bare leaves b1 on the tape. */
    private static Edges.Start tapeOf(int n) {
        return x -> {
            Edges.bare(x);
            for (int k = 2; k < n; k++) {
                x.feed(WHOLE.charAt(k));
            }
        };
    }

    private static void tapeIsFull() {
        Edges.taken("6: byte 140", tapeOf(139), x -> x.feed(';'), 140);
        Edges.refused("6: byte 141", tapeOf(140), x -> x.feed(';'), Checks.FULL);
        Edges.refused("6: byte 141, the least", tapeOf(140), x -> x.feed(0), Checks.FULL);
        Edges.refused("6: byte 141, the most", tapeOf(140), x -> x.feed(255), Checks.FULL);
        Edges.refused("6: BAD ahead of FULL, below", tapeOf(140), x -> x.feed(-1), Checks.BAD);
        Edges.refused("6: BAD ahead of FULL, above", tapeOf(140), x -> x.feed(256), Checks.BAD);
    }

    private static void tapeOf140() {
        Checks.due("7: bytes of the whole tape", WHOLE.length(), 140);
        BandPace x = new BandPace();
        Checks.due("7: a band of 140 bytes", Checks.read(x, WHOLE), 5);
        int[] heard = {3, 3, 3, 3, 0};
        for (int p = 0; p < 5; p++) {
            Checks.due("7: ears of " + p, x.player(p, 3), heard[p]);
        }
        Checks.due("7: bars", x.count(2), 12);
        Checks.due("7: the last bar", x.bar(11), 0);
        Checks.due("7: the last ear", x.ear(3, 2), 3);
        Checks.due("7: no fault", x.fault(), 0);
        bad(WHOLE.substring(0, 139), 139, 1);
        bad(WHOLE.substring(0, 139) + ",", 139, 1);
    }

    private static void tapeEmptyThen() {
        BandPace x = new BandPace();
        for (String text : new String[]{"", "b", Edges.STILL, "b21", WHOLE, WHOLE.substring(1)}) {
            Checks.read(x, text);
            Checks.due("7: the tape is empty behind " + text, x.count(8), 0);
        }
        Checks.due("7: room again", Checks.read(x, Edges.STILL), 1);
    }

    /** RUSH shows at a fill, DRAG at a quiet bar, PUSH at a chorus. */
    private static void law() {
        for (int n : new int[]{0, 1, 19, 20}) {
            leans("b" + n + ",7,8,60;", n, -7, 8);
            leans("b6," + n + ",8,60;", 6, -n, 8);
            leans("b6,7," + n + ",60;", 6, -7, n);
        }
        leans("b00,09,08,60;", 0, -9, 8);
        for (String n : new String[]{"21", "22", "99"}) {
            bad("b" + n + ",0,0,60;" + SONG + TWO, 1, 2);
            bad("b0," + n + ",0,60;" + SONG + TWO, 3, 2);
            bad("b0,0," + n + ",60;" + SONG + TWO, 5, 2);
        }
    }

    private static void leans(String law, int fill, int quiet, int chorus) {
        BandPace x = Checks.told(law + "zfqc;t60,0;");
        Checks.due("7: RUSH of " + law, x.player(0, 2), fill);
        x.bars(1);
        Checks.due("7: DRAG of " + law, x.player(0, 2), quiet);
        x.bars(1);
        Checks.due("7: PUSH of " + law, x.player(0, 2), chorus);
    }

    private static void click() {
        for (int n : new int[]{40, 41, 98, 99}) {
            BandPace x = Checks.told("b0,0,0," + n + ";" + SONG + TWO);
            Checks.due("7: CLICK " + n, x.count(6), n);
        }
        for (String n : new String[]{"39", "00", "0", "4", "9"}) {
            bad("b0,0,0," + n + ";" + SONG + TWO, 7, 2);
        }
        bad("b0,0,0,100;" + SONG + TWO, 7, 1);
        bad("b0,0,0,060;" + SONG + TWO, 7, 1);
    }

    private static void song() {
        String bars = "efqchhcqfeef";
        for (int n = 1; n <= 12; n++) {
            BandPace x = Checks.told(LAW + "z" + bars.substring(0, n) + ";" + TWO);
            Checks.due("7: bars of " + n, x.count(2), n);
            for (int k = 0; k < n; k++) {
                Checks.due("7: bar " + k + " of " + n, x.bar(k), "efqch".indexOf(bars.charAt(k)));
            }
            Checks.due("7: behind the last of " + n, x.bar(n), Checks.BAD);
        }
        bad(LAW + "z;" + TWO, 11, 1);
        for (char c : "efqch".toCharArray()) {
            bad(LAW + "z" + bars + c + ";" + TWO, 23, 3);
            bad(LAW + "z" + bars + c, 23, 3);
            bad(LAW + "z" + bars + c + "x", 23, 3);
        }
        bad(LAW + "z" + bars, 23, 1);
        bad(LAW + "z" + bars + "z", 23, 1);
    }

    private static void players() {
        for (int n = 1; n <= 5; n++) {
            good(LAW + SONG + ALL.substring(0, 6 * n), n);
        }
        bad(LAW + SONG, 13, 1);
        bad(LAW + SONG + "w0,1,1;", 13, 1);
        for (char c : "trdkl".toCharArray()) {
            good(LAW + SONG + c + "60,0;", 1);
            bad(LAW + SONG + ALL + c + "60,0;", 43, 3);
            bad(LAW + SONG + ALL + c, 43, 3);
            bad(LAW + SONG + ALL + c + "39", 43, 3);
        }
        good(LAW + SONG + ALL + "w4,0,1;", 5);
    }

    private static void paceAndHaste() {
        for (int n : new int[]{40, 41, 98, 99}) {
            BandPace x = Checks.told(LAW + SONG + "t50,0;r" + n + ",0;");
            Checks.due("7: ten times " + n, x.player(1, 0), 10 * n);
        }
        for (String n : new String[]{"39", "30", "00", "4", "0", "9"}) {
            bad(LAW + SONG + "t50,0;r" + n + ",0;", 20, 2);
        }
        bad(LAW + SONG + "t50,0;r100,0;", 20, 1);
        for (String n : new String[]{"0", "9", "00", "09"}) {
            BandPace x = Checks.told(LAW + SONG + "t50,0;r60," + n + ";");
            Checks.due("7: HASTE " + n, x.player(1, 1), Integer.parseInt(n));
        }
        for (String n : new String[]{"10", "11", "99"}) {
            bad(LAW + SONG + "t50,0;r60," + n + ";", 23, 2);
        }
        bad(LAW + SONG + "t50,0;r60,000;", 23, 1);
    }

    private static void ears() {
        String four = LAW + SONG + ALL.substring(0, 24);
        for (int n = 0; n <= 12; n++) {
            BandPace x = Checks.told(four + EARS.substring(0, 7 * n));
            int heard = x.player(0, 3) + x.player(1, 3) + x.player(2, 3) + x.player(3, 3);
            Checks.due("7: ears, as many as " + n, heard, n);
        }
        bad(four + EARS + "w", 121, 3);
        bad(four + EARS + "w0,0,0;", 121, 3);
        bad(LAW + SONG + ALL + EARS + "w4,0,1;", 127, 3);
        good(LAW + SONG + ALL + EARS, 5);
        good(LAW + SONG + ALL + EARS.substring(7) + "w4,0,1;", 5);
        String two = LAW + SONG + TWO;
        for (String n : new String[]{"1", "9", "01", "09"}) {
            BandPace x = Checks.told(two + "w0,1," + n + ";");
            Checks.due("7: W " + n, x.ear(0, 1), Integer.parseInt(n));
        }
        for (String n : new String[]{"0", "00", "10", "99"}) {
            bad(two + "w0,1," + n + ";", 30, 2);
        }
        bad(two + "w0,1,001;", 30, 1);
    }

    private static void whoHearsWhom() {
        for (int n = 1; n <= 5; n++) {
            String told = LAW + SONG + ALL.substring(0, 6 * n);
            int at = told.length() + 1;
            for (int i = 0; i < n; i++) {
                for (int j = 0; j < n; j++) {
                    if (i == j) {
                        bad(told + "w" + i + "," + j + ",1;", at + 2, 2);
                    } else {
                        good(told + "w" + i + "," + j + ",1;", n);
                        bad(told + "w" + i + "," + j + ",1;w" + i + "," + j + ",1;", at + 9, 2);
                        good(told + "w" + i + "," + j + ",1;w" + j + "," + i + ",1;", n);
                    }
                }
                bad(told + "w" + i + "," + n + ",1;", at + 2, 2);
                bad(told + "w" + i + ",99,1;", at + 2, 2);
                bad(told + "w" + n + "," + i + ",1;", at, 2);
                bad(told + "w99," + i + ",1;", at, 2);
            }
        }
        good(LAW + SONG + TWO + "w00,01,1;w01,00,1;", 2);
        bad(LAW + SONG + TWO + "w00,01,1;w0,1,1;", 37, 2);
        bad(LAW + SONG + TWO + "w0,1,1;w1,0,1;w0,1,1;", 42, 2);
    }

    /** Wherever a number stands, a run of three figures or more is no token, at its first. */
    private static void figures() {
        String text = Checks.FIVE;
        int numbers = 0;
        for (int at = 0; at < text.length(); at++) {
            if (isFigure(text, at) && !isFigure(text, at - 1)) {
                numbers++;
                int end = isFigure(text, at + 1) ? at + 2 : at + 1;
                for (String run : new String[]{"000", "060", "123", "999", "0001", "1234567890"}) {
                    bad(text.substring(0, at) + run + text.substring(end), at, 1);
                    bad(text.substring(0, at) + run, at, 1);
                }
            }
        }
        Checks.due("7: numbers", numbers, 4 + 10 + 9);
        bad("123", 0, 1);
        bad(LAW + "ze123;" + TWO, 12, 1);
        bad(LAW + "ze12;" + TWO, 12, 1);
    }

    private static boolean isFigure(String text, int at) {
        return at >= 0 && at < text.length() && Character.isDigit(text.charAt(at));
    }

    /** The end cannot stand there, but behind a player or an ear; a first figure alone is below 40. */
    private static void endsOfText() {
        String text = Checks.FIVE;
        for (int n = 0; n <= text.length(); n++) {
            boolean whole = n >= 23 && text.charAt(n - 1) == ';';
            boolean torn = n > 0 && isFigure(text, n - 1) && isFigure(text, n);
            if (whole) {
                good(text.substring(0, n), Math.min(5, (n - 17) / 6));
            } else if (torn) {
                bad(text.substring(0, n), n - 1, 2);
            } else {
                bad(text.substring(0, n), n, 1);
            }
        }
    }

    /** No byte but a to z, figures, the two signs is a token, wherever it comes. */
    private static void signsOutside() {
        String text = LAW + SONG + TWO + "w0,1,5;";
        int[] places = {0, 1, 2, 10, 11, 12, 13, 14, 16, 25, 26, 32};
        for (int v = 0; v < 256; v++) {
            boolean token = v >= 'a' && v <= 'z' || v >= '0' && v <= '9' || v == ',' || v == ';';
            if (!token) {
                for (int at : places) {
                    bad(text.substring(0, at) + (char) v + text.substring(Math.min(text.length(), at + 1)), at, 1);
                }
                bad(text.substring(0, 3) + (char) v + text.substring(3), 3, 1);
            }
        }
    }

    private static void wrongPlaces() {
        String two = LAW + SONG + TWO;
        for (char c : "acdefghijklmnopqrstuvwxyz0,;".toCharArray()) {
            bad(c + "1,2,3,60;" + SONG + TWO, 0, 1);
        }
        for (char c : "abcdefghijklmnopqrstuvwxyz,;".toCharArray()) {
            bad("b" + c + ",2,3,60;" + SONG + TWO, 1, 1);
            bad("b1,2,3," + c + ";" + SONG + TWO, 7, 1);
            bad(LAW + SONG + "t" + c + ",0;", 14, 1);
            bad(LAW + SONG + "t60," + c + ";", 17, 1);
            bad(two + "w" + c + ",1,5;", 26, 1);
            bad(two + "w0," + c + ",5;", 28, 1);
            bad(two + "w0,1," + c + ";", 30, 1);
        }
        for (char c : "abcdefghijklmnopqrstuvwxy0,;".toCharArray()) {
            bad(LAW + c + "e;" + TWO, 10, 1);
        }
        for (char c : "abdgijklmnoprstuvwxyz0,;".toCharArray()) {
            bad(LAW + "z" + c + ";" + TWO, 11, 1);
        }
        for (char c : "abdgijklmnoprstuvwxyz0,".toCharArray()) {
            bad(LAW + "ze" + c + TWO, 12, 1);
        }
        for (char c : "abcefghijmnopqsuvwxyz0,;".toCharArray()) {
            bad(LAW + SONG + c + "60,0;", 13, 1);
        }
        for (char c : "abcefghijmnopqsuvxyz0,;".toCharArray()) {
            bad(two + c + "60,0;", 25, 1);
        }
        for (char c : "abcdefghijklmnopqrstuvxyz0,;".toCharArray()) {
            bad(two + "w0,1,5;" + c, 32, 1);
        }
        for (char c : "abcdefghijklmnopqrstuvwxyz;".toCharArray()) {
            bad("b1" + c + "2,3,60;" + SONG + TWO, 2, 1);
            bad(LAW + SONG + "t60" + c + "0;", 16, 1);
            bad(two + "w0" + c + "1,5;", 27, 1);
            bad(two + "w0,1" + c + "5;", 29, 1);
        }
        for (char c : "abcdefghijklmnopqrstuvwxyz,".toCharArray()) {
            bad("b1,2,3,60" + c + SONG + TWO, 9, 1);
            bad(LAW + SONG + "t60,0" + c, 18, 1);
            bad(two + "w0,1,5" + c, 31, 1);
        }
    }

    private static void leastOfOneToken() {
        bad("b100,0,0,60;", 1, 1);
        bad(LAW + SONG + "t999,0;", 14, 1);
        bad(LAW + "zeeeeeeeeeeee0;", 23, 1);
        bad(LAW + "zeeeeeeeeeeee,", 23, 1);
        bad(LAW + "zeeeeeeeeeeeet", 23, 1);
        bad(LAW + SONG + ALL + "w0,1,1;t60,0;", 50, 1);
        bad(LAW + SONG + ALL + "99", 43, 1);
        bad(LAW + SONG + ALL.substring(0, 24) + EARS + "t60,0;", 121, 1);
        bad(LAW + SONG + ALL.substring(0, 24) + EARS + "99", 121, 1);
        bad(LAW + "99", 10, 1);
    }

    private static void firstOfTwoTokens() {
        bad("b21,21,21,39;", 1, 2);
        bad("b20,21,x", 4, 2);
        bad("b0x0,21", 2, 1);
        bad("b0,0,0,39;x", 7, 2);
        bad(LAW + "zeeeeeeeeeeeefx", 23, 3);
        bad(LAW + "zxeeeeeeeeeeeef", 11, 1);
        bad(LAW + SONG + "t39,10;" + ALL, 14, 2);
        bad(LAW + SONG + ALL + "t39,10;", 43, 3);
        bad(LAW + SONG + TWO + "w2,2,0;", 26, 2);
        bad(LAW + SONG + TWO + "w1,1,0;", 28, 2);
        bad(LAW + SONG + TWO + "w1,1x", 28, 2);
    }

    /** A band of two, acts, images, and nothing on the tape. */
    private static void two(BandPace x) {
        Checks.read(x, "b6,4,5,62;zfq;r60,1;k61,2;w0,1,5;");
        x.image(0);
        x.bars(2);
        x.pace(1, 700);
        x.click(70);
        x.image(1);
        x.hears(1, 0, 3);
        x.ask(1, 1);
        Edges.bare(x);
        x.band();
    }

    /** Whatever the fault was, all but its number is as behind the shortest text that has such a one. */
    private static void allStays() {
        String[] shortest = {"", "", "b21", LAW + "zeeeeeeeeeeeee"};
        String[][] texts = {{}, {"x", "b", LAW, LAW + SONG, LAW + SONG + TWO + "x", LAW + SONG + TWO + "w0,1,5"},
            {"b0,0,0,39", LAW + SONG + "t39", LAW + SONG + TWO + "w0,0", LAW + SONG + TWO + "w0,1,5;w0,1,5;"},
            {LAW + SONG + ALL + "t60,0;", LAW + "zffffffffffffq;" + TWO}};
        for (int fault = 1; fault <= 3; fault++) {
            for (String text : texts[fault]) {
                int number = fault;
                Edges.refusedBut("7: all stays behind " + text, TextsEdgesTest::two,
                    x -> Checks.read(x, text), x -> Checks.read(x, shortest[number]));
            }
        }
    }

    private static void latestFault() {
        BandPace x = new BandPace();
        Checks.due("8: 0 before one", x.fault(), 0);
        Checks.read(x, Edges.STILL);
        Checks.due("8: 0 behind a band", x.fault(), 0);
        String[] texts = {LAW + "zeeeeeeeeeeeee", "b21", "", LAW + "zeeeeeeeeeeeee", ""};
        int[] faults = {3, 2, 1, 3, 1};
        for (int k = 0; k < texts.length; k++) {
            Checks.read(x, texts[k]);
            Checks.due("8: the latest", x.fault(), faults[k]);
            Checks.read(x, Edges.STILL);
            Checks.due("8: the latest yet, behind a band", x.fault(), faults[k]);
        }
    }

    private static void inPlaceOfTheOneBefore() {
        BandPace x = new BandPace();
        Checks.read(x, WHOLE);
        x.bars(5);
        x.claps(9);
        Checks.due("7: a smaller one", Checks.read(x, "b0,0,0,40;zh;k40,0;"), 1);
        int[] want = {0, 1, 1, 0, 0, 400, 40, 0, 0};
        for (int what = 0; what <= 8; what++) {
            Checks.due("7: in place of it, count(" + what + ")", x.count(what), want[what]);
        }
        Checks.due("7: no bar of the one before", x.bar(1), Checks.BAD);
        Checks.due("7: no player of the one before", x.player(1, 0), Checks.BAD);
        Checks.due("7: no ear of the one before", x.player(0, 3), 0);
        Checks.due("7: no act can be undone", x.undo(), Checks.STATE);
        Checks.read(x, LAW + SONG + ALL);
        for (int p = 0; p < 5; p++) {
            Checks.due("7: no ear comes again, player " + p, x.player(p, 3), 0);
        }
    }
}
