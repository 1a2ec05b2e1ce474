import java.util.ArrayList;
import java.util.List;

/**
 * Edges, each on objects of its own: a call is made in a known state, and a twin that did not make it
 * is looked at in the same way, so that all that can be seen of the two must be alike.
 */
final class Edges {
    static final int BIG = Integer.MAX_VALUE, SMALL = Integer.MIN_VALUE;
    /** One player whose pace stays at 600. */
    static final String STILL = "b0,0,0,60;ze;t60,0;";
    /** One player at 600 who is quicker by 9 each bar: 609, 618, 627 .. */
    static final String NINE = "b0,0,0,60;ze;t60,9;";

    /** What comes ahead of the call. */
    interface Start {
        void on(BandPace x);
    }

    interface Call {
        int on(BandPace x);
    }

    /** A call of which one number is tried at its edges. */
    interface Tried {
        int on(BandPace x, int v);
    }

    private Edges() {
    }

    /** Rows 0, 1, 3, 4, 7 (2, 5, 6 are missing), a tape that begins with b1, FAULT 2, status 4; no band. */
    static void bare(BandPace x) {
        Checks.read(x, "b21");
        Checks.fill(x, 0, 1, 0, 100, 350, 700, 640, 2500);
        Checks.fill(x, 1, 0, 0, 5, 9);
        x.row(3, 2, 0);
        Checks.fill(x, 4, 1, 0, 7, 20);
        x.row(7, 2, 40);
        x.set(7, 39, 2500);
        x.feed('b');
        x.feed('1');
        x.row(0, 0, -1);
    }

    /** As bare, with a band of five, eight acts that can be undone, two images, a trace. */
    static void full(BandPace x) {
        Checks.read(x, Checks.FIVE);
        x.bars(1);
        x.image(0);
        x.bars(2);
        x.hears(4, 0, 2);
        x.click(70);
        x.image(1);
        x.pace(0, 655);
        x.claps(5);
        x.bars(1);
        x.ask(1, 0);
        bare(x);
    }

    /** As bare, with a band told by a text, of which nothing was played. */
    static Start with(String text) {
        return x -> {
            Checks.read(x, text);
            bare(x);
        };
    }

    static BandPace made(Start start) {
        BandPace x = new BandPace();
        start.on(x);
        return x;
    }

    static boolean isFinding(int answer) {
        return answer <= -1000011 && answer >= -1000015;
    }

    /** An answer that is none of the refusals and findings. */
    static boolean isAnswer(int answer) {
        return answer != Checks.BAD && answer != Checks.STATE && answer != Checks.FULL && !isFinding(answer);
    }

    /** The call is refused, or found: nothing but status() changes, and that by a finding alone. */
    static void refused(String what, Start start, Call call, int want) {
        BandPace x = made(start);
        int status = isFinding(want) ? -1000010 - want : x.status();
        Checks.due(what, call.on(x), want);
        Checks.due(what + ": status", x.status(), status);
        alike(what, x, made(start));
        if (isFinding(want)) {
            BandPace y = made(start);
            Checks.due(what + ": a call without a finding", y.copy(3, 0, 3, 0, 0), 0);
            Checks.due(what + ": again", call.on(y), want);
            Checks.due(what + ": status, behind a call without a finding", y.status(), status);
        }
    }

    /** One deed leaves all, status() too, as another one does. */
    static void refusedBut(String what, Start start, Start deed, Start other) {
        BandPace x = made(start);
        BandPace twin = made(start);
        deed.on(x);
        other.on(twin);
        Checks.due(what + ": status", x.status(), twin.status());
        alike(what, x, twin);
    }

    /** The call is answered; status() stays, for no ROW is in it. */
    static void taken(String what, Start start, Call call, int want) {
        BandPace x = made(start);
        int status = x.status();
        Checks.due(what, call.on(x), want);
        Checks.due(what + ": status stays", x.status(), status);
    }

    /** The call, with a ROW or as(), is answered and leaves no finding. */
    static void takenOfRow(String what, Start start, Call call, int want) {
        BandPace x = made(start);
        Checks.due(what, call.on(x), want);
        Checks.due(what + ": no finding", x.status(), 0);
    }

    /** The call is answered and nothing changes but, where it has a ROW, status(). */
    static void foretold(String what, Start start, Call call, int want) {
        BandPace x = made(start);
        Checks.due(what, call.on(x), want);
        alike(what, x, made(start));
    }

    /** A number from least to most is taken; one less, one more, and far ones are BAD. */
    static void range(String what, Start start, Tried call, int least, int most) {
        for (int v : new int[]{least, most}) {
            int answer = call.on(made(start), v);
            Checks.due(what + " " + v + " is taken (1), it answered " + answer, isAnswer(answer) ? 1 : 0, 1);
        }
        for (int v : new int[]{least - 1, most + 1, SMALL, BIG}) {
            refused(what + " " + v, start, x -> call.on(x, v), Checks.BAD);
        }
    }

    private static void alike(String what, BandPace x, BandPace twin) {
        List<Integer> seen = look(x);
        List<Integer> due = look(twin);
        Checks.due(what + ": as much is seen", seen.size(), due.size());
        for (int k = 0; k < Math.min(seen.size(), due.size()); k++) {
            if (!seen.get(k).equals(due.get(k))) {
                Checks.due(what + ": nothing but status() changes, look " + k, seen.get(k), due.get(k));
            }
        }
    }

    /** All that can be seen but status(); what is done for it spoils the object. */
    private static List<Integer> look(BandPace x) {
        List<Integer> seen = new ArrayList<>();
        seen.add(x.fault());
        for (int what = 0; what <= 8; what++) {
            seen.add(x.count(what));
        }
        for (int i = 0; i <= 6; i++) {
            seen.add(x.trace(i));
        }
        lookAtBand(x, seen);
        lookAtRows(x, seen);
        for (int left = x.count(7); left > 0; left--) {
            seen.add(x.undo());
            lookAtChanging(x, seen);
        }
        for (int k = 0; k < 2; k++) {
            seen.add(x.restore(k));
            lookAtBand(x, seen);
        }
        lookAtTape(x, seen);
        return seen;
    }

    private static void lookAtBand(BandPace x, List<Integer> seen) {
        int players = x.count(1);
        seen.add(players);
        seen.add(x.count(4));
        seen.add(x.count(6));
        for (int p = 0; p < players; p++) {
            for (int what = 0; what <= 3; what++) {
                seen.add(x.player(p, what));
            }
            seen.add(x.kind(p));
            for (int j = 0; j < players; j++) {
                if (j != p) {
                    seen.add(x.ear(p, j));
                }
            }
        }
        for (int k = 0; k < x.count(2); k++) {
            seen.add(x.bar(k));
        }
    }

    /** What is between one item and the next, where both are paces; then how many items there are. */
    private static void lookAtRows(BandPace x, List<Integer> seen) {
        for (int row : new int[]{0, 1, 4}) {
            for (int i = 0; i < 6; i++) {
                seen.add(x.songs(row, i, 2, -1));
            }
        }
        seen.add(x.songs(7, 0, 6, -1));
        seen.add(x.songs(7, 38, 2, -1));
        for (int row = 0; row < 8; row++) {
            seen.add(x.drop(row));
        }
    }

    private static void lookAtChanging(BandPace x, List<Integer> seen) {
        for (int p = 0; p < x.count(1); p++) {
            seen.add(x.player(p, 0));
        }
        seen.add(x.count(3));
        seen.add(x.count(4));
        seen.add(x.count(6));
        seen.add(x.ear(4, 0));
    }

    /** What is on the tape shows by the band that it becomes with a rest: b1 makes RUSH 1. */
    private static void lookAtTape(BandPace x, List<Integer> seen) {
        for (char c : ",2,3,60;zf;t60,0;".toCharArray()) {
            seen.add(x.feed(c));
        }
        seen.add(x.band());
        seen.add(x.player(0, 2));
        seen.add(x.fault());
    }
}
