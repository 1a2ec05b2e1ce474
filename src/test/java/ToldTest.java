/** Promises 6 to 8: the tape, how it is read, faults. */
public final class ToldTest {
    private static final String LAW = "b1,2,3,60;";
    private static final String SONG = "ze;";
    private static final String TWO = "t60,0;r61,1;";
    private static final String FOUR = "t60,0;r61,1;d62,2;k63,3;";

    public static void main(String[] args) {
        feed();
        bandsRead();
        faultsOfLaw();
        faultsOfSong();
        faultsOfPlayers();
        faultsOfEars();
        faultLeavesAll();
        Checks.end("ToldTest");
    }

    private static void feed() {
        BandPace x = new BandPace();
        Checks.due("6: -1", x.feed(-1), Checks.BAD);
        Checks.due("6: 256", x.feed(256), Checks.BAD);
        Checks.due("6: 0", x.feed(0), 1);
        Checks.due("6: 255", x.feed(255), 2);
        for (int n = 3; n <= 140; n++) {
            Checks.due("6: byte " + n, x.feed('b'), n);
        }
        Checks.due("6: one more", x.feed('b'), Checks.FULL);
        Checks.due("6: BAD ahead of FULL", x.feed(256), Checks.BAD);
        Checks.due("6: 140 stay", x.count(8), 140);
        Checks.due("6: byte 0 is no token", x.band(), -1000100);
        Checks.due("6: empty then", x.count(8), 0);
        Checks.due("6: room again", x.feed('b'), 1);
    }

    private static void bandsRead() {
        good(LAW + SONG + "t40,0;", 1);
        good("b0,0,0,40;ze;t40,0;", 1);
        good("b20,20,20,99;zefqchefqchef;l99,9;", 1);
        good("b00,01,09,99;ze;t99,09;", 1);
        good(LAW + SONG + FOUR + "l64,4;", 5);
        good(LAW + SONG + TWO + "w0,1,1;w1,0,9;", 2);
        good(LAW + SONG + TWO + "w00,01,01;", 2);
        good(LAW + SONG + FOUR + ears(12), 4);
        BandPace x = Checks.told(LAW + "zqh;t45,7;l99,0;w1,0,8;");
        Checks.due("7: pace", x.player(0, 0), 450);
        Checks.due("7: haste", x.player(0, 1), 7);
        Checks.due("7: ear", x.ear(1, 0), 8);
        Checks.due("7: no ear", x.ear(0, 1), 0);
        Checks.due("7: bar 0", x.bar(0), 2);
        Checks.due("7: bar 1", x.bar(1), 4);
        Checks.due("7: click", x.count(6), 60);
        x.bars(3);
        x.hears(0, 1, 4);
        Checks.due("7: another one", Checks.read(x, LAW + "zcc;" + "d50,1;l99,0;"), 2);
        Checks.due("7: its song", x.count(2), 2);
        Checks.due("7: its song", x.bar(0), 3);
        Checks.due("7: bar 0 is to come", x.count(3), 0);
        Checks.due("7: no bars gone", x.count(4), 0);
        Checks.due("7: nothing to undo", x.count(7), 0);
        Checks.due("7: no undo", x.undo(), Checks.STATE);
        Checks.due("7: its ears are gone", x.ear(1, 0), 0);
        Checks.due("7: its pace", x.player(0, 0), 500);
    }

    private static void faultsOfLaw() {
        bad("", 0, 1);
        bad("b", 1, 1);
        bad("B1,2,3,60;", 0, 1);
        bad(" b", 0, 1);
        bad("z", 0, 1);
        bad("b,", 1, 1);
        bad("b1", 2, 1);
        bad("b1;", 2, 1);
        bad("b100,0,0,60;", 1, 1);
        bad("b1234", 1, 1);
        bad("b21,0,0,60;", 1, 2);
        bad("b0,21,0,60;", 3, 2);
        bad("b0,0,21,60;", 5, 2);
        bad("b0,0,0,39;", 7, 2);
        bad("b0,0,0,39", 7, 2);
        bad("b0,0,0,100;", 7, 1);
        bad("b0,0,0,60", 9, 1);
        bad("b0,0,0,60,", 9, 1);
        bad("b0, 0", 3, 1);
        bad(LAW, 10, 1);
    }

    private static void faultsOfSong() {
        bad(LAW + "e", 10, 1);
        bad(LAW + "t60,0;", 10, 1);
        bad(LAW + "z", 11, 1);
        bad(LAW + "z;", 11, 1);
        bad(LAW + "zt;", 11, 1);
        bad(LAW + "ze", 12, 1);
        bad(LAW + "ze,", 12, 1);
        bad(LAW + "ze1", 12, 1);
        bad(LAW + "zeeeeeeeeeeeef;t60,0;", 23, 3);
        bad(LAW + "zeeeeeeeeeeeee", 23, 3);
        bad(LAW + "zeeeeeeeeeeeex", 23, 1);
        bad(LAW + "zeeeeeeeeeeee", 23, 1);
    }

    private static void faultsOfPlayers() {
        bad(LAW + SONG, 13, 1);
        bad(LAW + SONG + "w0,1,1;", 13, 1);
        bad(LAW + SONG + "e60,0;", 13, 1);
        bad(LAW + SONG + "t", 14, 1);
        bad(LAW + SONG + "t39,0;", 14, 2);
        bad(LAW + SONG + "t6,0;", 14, 2);
        bad(LAW + SONG + "t60;", 16, 1);
        bad(LAW + SONG + "t60,10;", 17, 2);
        bad(LAW + SONG + "t60,100;", 17, 1);
        bad(LAW + SONG + "t60,1", 18, 1);
        bad(LAW + SONG + "t60,1,", 18, 1);
        bad(LAW + SONG + "t60,1;;", 19, 1);
        bad(LAW + SONG + "t60,1;b", 19, 1);
        bad(LAW + SONG + FOUR + "l64,4;t", 43, 3);
        bad(LAW + SONG + FOUR + "l64,4;x", 43, 1);
    }

    private static void faultsOfEars() {
        String two = LAW + SONG + TWO;
        bad(two + "w", 26, 1);
        bad(two + "w2,0,1;", 26, 2);
        bad(two + "w0,2,1;", 28, 2);
        bad(two + "w0,0,1;", 28, 2);
        bad(two + "w0,1,0;", 30, 2);
        bad(two + "w0,1,10;", 30, 2);
        bad(two + "w0,1,100;", 30, 1);
        bad(two + "w0,1;", 29, 1);
        bad(two + "w0,1,1", 31, 1);
        bad(two + "w0,1,1;w0,1,2;", 35, 2);
        bad(two + "w0,1,1;t60,0;", 32, 1);
        bad(two + "w0,1,1;x", 32, 1);
        bad(two + "wa", 26, 1);
        bad(two + "w0,w", 28, 1);
        bad(LAW + SONG + FOUR + ears(12) + "w", 121, 3);
        bad(LAW + SONG + FOUR + ears(12) + "t", 121, 1);
    }

    private static void faultLeavesAll() {
        BandPace x = Checks.told(Checks.FIVE);
        Checks.due("8: before one", x.fault(), 0);
        x.bars(2);
        Checks.due("7: a fault", Checks.read(x, "b1,2,3,60;zee;t50,"), -1000118);
        Checks.due("8: its number", x.fault(), 1);
        Checks.due("7: the players stay", x.count(1), 5);
        Checks.due("7: the song stays", x.count(2), 5);
        Checks.due("7: the acts stay", x.count(7), 2);
        Checks.due("7: the pace stays", x.count(5), 615);
        Checks.due("7: the tape is empty", x.count(8), 0);
        Checks.due("7: another fault", Checks.read(x, "b21"), -1000101);
        Checks.due("8: the latest", x.fault(), 2);
        Checks.due("7: none", Checks.read(x, LAW + SONG + TWO), 2);
        Checks.due("8: the latest yet", x.fault(), 2);
    }

    private static String ears(int n) {
        StringBuilder text = new StringBuilder();
        for (int i = 0; i < 4; i++) {
            for (int j = 0; j < 4; j++) {
                if (i != j && n > 0) {
                    text.append('w').append(i).append(',').append(j).append(",5;");
                    n--;
                }
            }
        }
        return text.toString();
    }

    private static void good(String text, int players) {
        BandPace x = new BandPace();
        Checks.due("7: band of " + text, Checks.read(x, text), players);
        Checks.due("8: fault of " + text, x.fault(), 0);
        Checks.due("7: players of " + text, x.count(1), players);
    }

    private static void bad(String text, int place, int fault) {
        BandPace x = new BandPace();
        Checks.due("7: band of " + text, Checks.read(x, text), -1000100 - place);
        Checks.due("8: fault of " + text, x.fault(), fault);
        Checks.due("7: no players by " + text, x.count(1), 0);
    }
}
