import java.util.ArrayDeque;
import java.util.ArrayList;
import java.util.Arrays;
import java.util.Deque;
import java.util.HashMap;
import java.util.List;
import java.util.Map;
import java.util.TreeMap;

/**
 * The document once more, written another way and as slow as it likes, so that ModelTest can compare
 * long random runs with it. It shares nothing with the class but the reading of the document.
 */
final class Model {
    static final int NONE = -1000000, BAD = -1000001, STATE = -1000002, FULL = -1000003;

    static final class Person {
        char sort;
        int pace;
        int haste;
        boolean leans = true;

        Person twin() {
            Person p = new Person();
            p.sort = sort;
            p.pace = pace;
            p.haste = haste;
            p.leans = leans;
            return p;
        }
    }

    static final class Group {
        List<Person> people = new ArrayList<>();
        Map<Integer, Integer> ears = new TreeMap<>();
        String song = "";
        int[] law = new int[4];
        int gone;

        Group twin() {
            Group g = new Group();
            for (Person p : people) {
                g.people.add(p.twin());
            }
            g.ears.putAll(ears);
            g.song = song;
            g.law = law.clone();
            g.gone = gone;
            return g;
        }

        char coming() {
            return song.charAt(gone % song.length());
        }

        int pace() {
            return (int) people.stream().mapToInt(p -> p.pace).average().orElse(0);
        }

        int lean(Person p) {
            if (!p.leans || p.sort == 'k' || p.sort == 'l') {
                return 0;
            }
            char c = coming();
            if (c == 'f') {
                return law[0] * (p.sort == 'r' ? 2 : 1);
            }
            if (c == 'q') {
                return -law[1] * (p.sort == 'd' ? 2 : 1);
            }
            return c == 'c' ? law[2] : 0;
        }

        Group after(int n) {
            Group g = this;
            for (int k = 0; k < n; k++) {
                g = g.after();
            }
            return g;
        }

        Group after() {
            Group g = twin();
            for (int i = 0; i < people.size(); i++) {
                Person p = people.get(i);
                int heard = 0;
                for (Map.Entry<Integer, Integer> e : ears.entrySet()) {
                    if (e.getKey() / 5 == i) {
                        heard += e.getValue() * (people.get(e.getKey() % 5).pace - p.pace);
                    }
                }
                int v = p.pace + heard / 10 + lean(p);
                if (coming() != 'h') {
                    v += p.haste;
                }
                int between = law[3] * 10 - v;
                if (p.sort == 'k') {
                    v += between / 2;
                } else if (p.sort == 'l') {
                    v += between / 2 / 2;
                }
                g.people.get(i).pace = clamp(v);
            }
            g.gone++;
            return g;
        }

        int drift() {
            return after(song.length()).pace() - pace();
        }

        String key() {
            StringBuilder b = new StringBuilder();
            b.append(gone % song.length());
            people.forEach(p -> b.append(' ').append(p.pace));
            return b.toString();
        }
    }

    private Group now;
    private final Deque<Group> past = new ArrayDeque<>();
    private final Group[] images = new Group[2];
    private final int[] lanes = new int[8];
    private final int[][] rows = new int[8][];
    private StringBuilder tape = new StringBuilder();
    private int fault;
    private int status;
    private List<Integer> trace = new ArrayList<>();

    static int clamp(int v) {
        return v < 300 ? 300 : v > 2500 ? 2500 : v;
    }

    private static boolean out(int v, int a, int b) {
        return v < a || v > b;
    }

    private boolean nobody(int p) {
        return now == null || out(p, 0, now.people.size() - 1);
    }

    private int found(int number) {
        status = number;
        return -1000010 - number;
    }

    private int well(int answer) {
        status = 0;
        return answer;
    }

    int row(int r, int lane, int n) {
        if (out(r, 0, 7) || out(lane, 0, 2) || n > 40) {
            return BAD;
        }
        if (n < 0) {
            return found(4);
        }
        lanes[r] = lane;
        rows[r] = new int[n];
        return well(n);
    }

    int set(int r, int i, int v) {
        if (out(r, 0, 7)) {
            return BAD;
        }
        if (rows[r] == null) {
            return found(1);
        }
        if (out(i, 0, rows[r].length - 1)) {
            return found(2);
        }
        int bits = lanes[r] == 0 ? 24 : lanes[r] == 1 ? 16 : 0;
        rows[r][i] = v << bits >> bits;
        return well(rows[r][i]);
    }

    int copy(int a, int i, int b, int j, int n) {
        if (out(a, 0, 7) || out(b, 0, 7)) {
            return BAD;
        }
        if (rows[a] == null || rows[b] == null) {
            return found(1);
        }
        if (lanes[a] != lanes[b]) {
            return found(5);
        }
        if (i < 0 || j < 0 || n < 0 || (long) i + n > rows[a].length || (long) j + n > rows[b].length) {
            return found(2);
        }
        int[] from = rows[a].clone();
        for (int k = 0; k < n; k++) {
            rows[b][j + k] = from[i + k];
        }
        return well(n);
    }

    int drop(int r) {
        if (out(r, 0, 7)) {
            return BAD;
        }
        if (rows[r] == null) {
            return found(1);
        }
        int n = rows[r].length;
        rows[r] = null;
        return well(n);
    }

    int feed(int letter) {
        if (out(letter, 0, 255)) {
            return BAD;
        }
        if (tape.length() == 140) {
            return FULL;
        }
        tape.append((char) letter);
        return tape.length();
    }

    /** Steps of a statement by its first letter: N a number, else the sign itself. */
    private static final Map<Character, String> SHAPES = new HashMap<>();

    static {
        SHAPES.put('b', "N,N,N,N;");
        SHAPES.put('w', "N,N,N;");
        for (char c : "trdkl".toCharArray()) {
            SHAPES.put(c, "N,N;");
        }
    }

    /** An automaton over tokens: the statement that is open, the step in it, what has been told so far. */
    int band() {
        String text = tape.toString();
        tape = new StringBuilder();
        Group g = new Group();
        char open = 0;
        int step = 0;
        int told = 0;
        boolean law = false;
        boolean song = false;
        boolean eared = false;
        List<Integer> numbers = new ArrayList<>();
        int at = 0;
        while (at < text.length()) {
            char c = text.charAt(at);
            int width = 1;
            boolean number = Character.isDigit(c) && c < 128;
            if (number) {
                while (at + width < text.length() && text.charAt(at + width) >= '0' && text.charAt(at + width) <= '9') {
                    width++;
                }
                if (width > 2) {
                    return faulty(1, at);
                }
            }
            if (open == 0) {
                String may = !law ? "b" : !song ? "z" : g.people.isEmpty() ? "trdkl" : eared ? "w" : "trdklw";
                if (may.indexOf(c) < 0) {
                    return faulty(1, at);
                }
                if ("trdkl".indexOf(c) >= 0 && g.people.size() == 5 || c == 'w' && told == 12) {
                    return faulty(3, at);
                }
                open = c;
                step = 0;
                numbers.clear();
            } else if (open == 'z') {
                if (c == ';' && !g.song.isEmpty()) {
                    song = true;
                    open = 0;
                } else if ("efqch".indexOf(c) < 0) {
                    return faulty(1, at);
                } else if (g.song.length() == 12) {
                    return faulty(3, at);
                } else {
                    g.song += c;
                }
            } else {
                char want = SHAPES.get(open).charAt(step);
                if (want == 'N' ? !number : want != c) {
                    return faulty(1, at);
                }
                if (number) {
                    int v = Integer.parseInt(text.substring(at, at + width));
                    if (!fits(open, numbers, v, g)) {
                        return faulty(2, at);
                    }
                    numbers.add(v);
                }
                step++;
                if (step == SHAPES.get(open).length()) {
                    if (open == 'b') {
                        law = true;
                        for (int k = 0; k < 4; k++) {
                            g.law[k] = numbers.get(k);
                        }
                    } else if (open == 'w') {
                        eared = true;
                        told++;
                        g.ears.put(5 * numbers.get(0) + numbers.get(1), numbers.get(2));
                    } else {
                        Person p = new Person();
                        p.sort = open;
                        p.pace = 10 * numbers.get(0);
                        p.haste = numbers.get(1);
                        g.people.add(p);
                    }
                    open = 0;
                }
            }
            at += width;
        }
        if (open != 0 || g.people.isEmpty()) {
            return faulty(1, text.length());
        }
        now = g;
        past.clear();
        return g.people.size();
    }

    private static boolean fits(char open, List<Integer> before, int v, Group g) {
        int k = before.size();
        if (open == 'b') {
            return k < 3 ? v <= 20 : v >= 40;
        }
        if (open != 'w') {
            return k == 0 ? v >= 40 : v <= 9;
        }
        if (k == 0) {
            return v < g.people.size();
        }
        if (k == 1) {
            return v < g.people.size() && v != before.get(0) && !g.ears.containsKey(5 * before.get(0) + v);
        }
        return v >= 1 && v <= 9;
    }

    private int faulty(int number, int place) {
        fault = number;
        return -1000100 - place;
    }

    int fault() {
        return fault;
    }

    int undo() {
        if (past.isEmpty()) {
            return STATE;
        }
        now = past.removeLast();
        return past.size();
    }

    private void act() {
        past.addLast(now.twin());
        if (past.size() > 24) {
            past.removeFirst();
        }
    }

    int bars(int n) {
        if (now == null) {
            return STATE;
        }
        if (out(n, 1, 24)) {
            return BAD;
        }
        if (now.gone + n > 999) {
            return FULL;
        }
        for (int k = 0; k < n; k++) {
            act();
            now = now.after();
        }
        return now.pace();
    }

    int pace(int p, int v) {
        if (nobody(p) || out(v, 300, 2500)) {
            return BAD;
        }
        act();
        int was = now.people.get(p).pace;
        now.people.get(p).pace = v;
        return was;
    }

    int hears(int i, int j, int w) {
        if (nobody(i) || nobody(j) || i == j || out(w, 0, 9)) {
            return BAD;
        }
        act();
        Integer was = w == 0 ? now.ears.remove(5 * i + j) : now.ears.put(5 * i + j, w);
        return was == null ? 0 : was;
    }

    int click(int v) {
        if (now == null) {
            return STATE;
        }
        if (out(v, 40, 99)) {
            return BAD;
        }
        act();
        int was = now.law[3];
        now.law[3] = v;
        return was;
    }

    private static void clap(Group g, int c) {
        g.people.forEach(p -> p.pace = clamp(p.pace + c));
    }

    int claps(int c) {
        if (now == null) {
            return STATE;
        }
        if (out(c, 1, 99)) {
            return BAD;
        }
        act();
        clap(now, c);
        return now.pace();
    }

    int player(int p, int what) {
        if (nobody(p) || out(what, 0, 3)) {
            return BAD;
        }
        Person one = now.people.get(p);
        if (what == 3) {
            return (int) now.ears.keySet().stream().filter(e -> e / 5 == p).count();
        }
        return what == 0 ? one.pace : what == 1 ? one.haste : now.lean(one);
    }

    int ear(int i, int j) {
        return nobody(i) || nobody(j) || i == j ? BAD : now.ears.getOrDefault(5 * i + j, 0);
    }

    int bar(int k) {
        return now == null || out(k, 0, now.song.length() - 1) ? BAD : "efqch".indexOf(now.song.charAt(k));
    }

    int ahead(int p, int n) {
        if (now == null) {
            return STATE;
        }
        if (p != -1 && nobody(p) || out(n, 0, 200)) {
            return BAD;
        }
        Group g = now.after(n);
        return p == -1 ? g.pace() : g.people.get(p).pace;
    }

    int drift() {
        return now == null ? STATE : now.drift();
    }

    int round(int what) {
        if (now == null) {
            return STATE;
        }
        if (out(what, 0, 1)) {
            return BAD;
        }
        Map<String, Integer> seen = new HashMap<>();
        Group g = now;
        for (int k = 0; k <= 200; k++) {
            Integer before = seen.putIfAbsent(g.key(), k);
            if (before != null) {
                return what == 0 ? k : before;
            }
            g = g.after();
        }
        return NONE;
    }

    int noticed(int n, int d) {
        if (now == null) {
            return STATE;
        }
        if (out(n, 1, 200) || out(d, 0, 99)) {
            return BAD;
        }
        Group g = now;
        for (int k = 0; k < n; k++) {
            Group h = g.after();
            if (Math.abs(h.pace() - g.pace()) > d) {
                return k;
            }
            g = h;
        }
        return NONE;
    }

    int dancers(int r, int i, int m, int n, int what) {
        if (now == null) {
            return STATE;
        }
        if (out(r, 0, 7) || out(m, 1, 10) || out(n, 0, 200) || out(what, 0, 1)) {
            return BAD;
        }
        if (rows[r] == null) {
            return found(1);
        }
        if (i < 0 || (long) i + 2 * m > rows[r].length) {
            return found(2);
        }
        int who = 0;
        int last = NONE;
        for (int k = 0; k < m; k++) {
            Group g = now;
            for (int t = 0; t <= n; t++) {
                if (g.pace() < rows[r][i + 2 * k] || g.pace() > rows[r][i + 2 * k + 1]) {
                    who |= 1 << k;
                    last = Math.max(last, t);
                    break;
                }
                g = g.after();
            }
        }
        return well(what == 0 ? who : last);
    }

    int countIn(int n, int pace) {
        if (now == null) {
            return STATE;
        }
        if (out(n, 0, 200) || out(pace, 300, 2500)) {
            return BAD;
        }
        int best = 0;
        int away = Integer.MAX_VALUE;
        for (int v = 400; v <= 990; v += 10) {
            Group g = now.twin();
            for (Person p : g.people) {
                p.pace = v;
            }
            int a = Math.abs(g.after(n).pace() - pace);
            if (a < away) {
                away = a;
                best = v;
            }
        }
        return best;
    }

    int deaf(int what) {
        if (now == null) {
            return STATE;
        }
        if (out(what, 0, 1)) {
            return BAD;
        }
        int[] best = null;
        for (int e : now.ears.keySet()) {
            Group g = now.twin();
            g.ears.remove(e);
            best = nearer(best, e, g.drift());
        }
        return best == null ? NONE : best[what];
    }

    int inEar(int what) {
        if (now == null) {
            return STATE;
        }
        if (out(what, 0, 1)) {
            return BAD;
        }
        int[] best = null;
        for (int p = 0; p < now.people.size(); p++) {
            Group g = now.twin();
            g.people.get(p).sort = 'k';
            best = nearer(best, p, g.drift());
        }
        return best[what];
    }

    private static int[] nearer(int[] best, int which, int drift) {
        return best != null && Math.abs(best[1]) <= Math.abs(drift) ? best : new int[]{which, drift};
    }

    int blame(int p) {
        if (nobody(p)) {
            return BAD;
        }
        Group g = now.twin();
        g.people.get(p).haste = 0;
        g.people.get(p).leans = false;
        return now.drift() - g.drift();
    }

    int back(int p, int d, int n, int pace) {
        if (nobody(p) || out(d, 1, 99) || out(n, 1, 40) || out(pace, 300, 2500)) {
            return BAD;
        }
        if ("kl".indexOf(now.people.get(p).sort) < 0) {
            return STATE;
        }
        int best = NONE;
        int away = Integer.MAX_VALUE;
        for (int k = 0; k < n; k++) {
            boolean unnoticed = true;
            Group g = now;
            for (int t = 0; t < n; t++) {
                Group h = g.twin();
                if (t == k) {
                    h.people.get(p).pace = Math.max(300, h.people.get(p).pace - d);
                }
                h = h.after();
                unnoticed &= Math.abs(h.pace() - g.pace()) <= 9;
                g = h;
            }
            int a = Math.abs(g.pace() - pace);
            if (unnoticed && a < away) {
                away = a;
                best = k;
            }
        }
        return best;
    }

    int songs(int r, int i, int n, int k) {
        if (out(r, 0, 7) || out(n, 1, 6) || out(k, -1, n - 1)) {
            return BAD;
        }
        if (rows[r] == null) {
            return found(1);
        }
        if (i < 0 || (long) i + n > rows[r].length) {
            return found(2);
        }
        int[] items = Arrays.copyOfRange(rows[r], i, i + n);
        for (int v : items) {
            if (out(v, 0, 2500)) {
                return BAD;
            }
        }
        int[] best = new int[7];
        best[6] = Integer.MAX_VALUE;
        orders(items, new int[n], 0, 0, best);
        return well(k == -1 ? best[6] : best[k]);
    }

    private static void orders(int[] items, int[] order, int done, int used, int[] best) {
        if (done == items.length) {
            int sum = 0;
            for (int k = 0; k + 1 < done; k++) {
                sum += Math.abs(items[order[k]] - items[order[k + 1]]);
            }
            if (sum < best[6]) {
                best[6] = sum;
                System.arraycopy(order, 0, best, 0, done);
            }
            return;
        }
        for (int s = 0; s < items.length; s++) {
            if ((used >> s & 1) == 0) {
                order[done] = s;
                orders(items, order, done + 1, used | 1 << s, best);
            }
        }
    }

    int clapped(int c, int n) {
        if (now == null) {
            return STATE;
        }
        if (out(c, 1, 99) || out(n, 0, 200)) {
            return BAD;
        }
        Group g = now.twin();
        clap(g, c);
        return g.after(n).pace() - now.after(n).pace();
    }

    int whoPushed(int r, int i, int what) {
        if (now == null) {
            return STATE;
        }
        if (out(r, 0, 7) || out(what, 0, 1)) {
            return BAD;
        }
        if (rows[r] == null) {
            return found(1);
        }
        int n = now.people.size();
        if (i < 0 || (long) i + n > rows[r].length) {
            return found(2);
        }
        int[] want = Arrays.copyOfRange(rows[r], i, i + n);
        int who = 0;
        int by = NONE;
        for (int p = n - 1; p >= 0; p--) {
            for (int h = 20; h >= 1; h--) {
                Group g = now.twin();
                g.people.get(p).haste += h;
                if (Arrays.equals(g.after().people.stream().mapToInt(q -> q.pace).toArray(), want)) {
                    who |= 1 << p;
                    by = h;
                }
            }
        }
        return well(what == 0 ? who : by);
    }

    int night(int n, int seed, int what) {
        if (now == null) {
            return STATE;
        }
        if (out(n, 0, 100) || out(seed, 1, 999999) || out(what, 0, 1)) {
            return BAD;
        }
        long x = seed;
        int many = 0;
        Group g = now;
        for (int k = 0; k < n; k++) {
            Group h = g.twin();
            for (Person p : h.people) {
                x = x * 16807L % 2147483647L;
                p.pace = clamp(p.pace + (int) (x % 5) - 2);
            }
            h = h.after();
            if (Math.abs(h.pace() - g.pace()) > 9) {
                many++;
            }
            g = h;
        }
        return what == 0 ? g.pace() : many;
    }

    int image(int k) {
        if (out(k, 0, 1)) {
            return BAD;
        }
        if (now == null) {
            return STATE;
        }
        images[k] = now.twin();
        return 1;
    }

    int restore(int k) {
        if (out(k, 0, 1)) {
            return BAD;
        }
        if (images[k] == null) {
            return STATE;
        }
        now = images[k].twin();
        past.clear();
        return 1;
    }

    /** The asks as Java itself would find the bodies. */
    interface Asked {
        Person person();

        int number();

        List<Integer> trace();

        default int size() {
            trace().add(10);
            return person().pace;
        }

        default int mark() {
            trace().add(20);
            return number();
        }
    }

    private static class Steady implements Asked {
        private final Person person;
        private final int number;
        private final List<Integer> trace;

        Steady(Person person, int number, List<Integer> trace) {
            this.person = person;
            this.number = number;
            this.trace = trace;
        }

        public Person person() {
            return person;
        }

        public int number() {
            return number;
        }

        public List<Integer> trace() {
            return trace;
        }

        public int size() {
            trace.add(11);
            return Asked.super.size() + mark();
        }

        public int mark() {
            trace.add(21);
            return Asked.super.mark() + person.haste;
        }
    }

    private static final class Rusher extends Steady {
        Rusher(Person person, int number, List<Integer> trace) {
            super(person, number, trace);
        }

        public int size() {
            trace().add(12);
            return -super.size();
        }

        public int mark() {
            trace().add(24);
            return 2 * super.mark();
        }
    }

    private static final class Dragger extends Steady {
        Dragger(Person person, int number, List<Integer> trace) {
            super(person, number, trace);
        }

        public int mark() {
            trace().add(22);
            return super.mark() - 1000;
        }
    }

    private static class Clicked implements Asked {
        private final Person person;
        private final int number;
        private final List<Integer> trace;

        Clicked(Person person, int number, List<Integer> trace) {
            this.person = person;
            this.number = number;
            this.trace = trace;
        }

        public Person person() {
            return person;
        }

        public int number() {
            return number;
        }

        public List<Integer> trace() {
            return trace;
        }

        public int size() {
            trace.add(13);
            return Asked.super.size() - 100;
        }

        public int mark() {
            trace.add(23);
            return Asked.super.mark() - size();
        }
    }

    private static final class Leader extends Clicked {
        Leader(Person person, int number, List<Integer> trace) {
            super(person, number, trace);
        }

        public int size() {
            trace().add(14);
            return 2 * super.size();
        }
    }

    private static final Class<?>[] KINDS = {
        Asked.class, Steady.class, Rusher.class, Dragger.class, Clicked.class, Leader.class};

    private Asked asked(int one, List<Integer> into) {
        Person p = now.people.get(one);
        switch (p.sort) {
            case 't':
                return new Steady(p, one, into);
            case 'r':
                return new Rusher(p, one, into);
            case 'd':
                return new Dragger(p, one, into);
            case 'k':
                return new Clicked(p, one, into);
            default:
                return new Leader(p, one, into);
        }
    }

    int kind(int one) {
        return nobody(one) ? BAD : 1 + "trdkl".indexOf(now.people.get(one).sort);
    }

    int as(int one, int kind) {
        if (nobody(one) || out(kind, 0, 5)) {
            return BAD;
        }
        return KINDS[kind].isInstance(asked(one, trace)) ? well(one) : found(3);
    }

    int ask(int one, int what) {
        if (nobody(one) || out(what, 0, 1)) {
            return BAD;
        }
        trace = new ArrayList<>();
        Asked a = asked(one, trace);
        return what == 0 ? a.size() : a.mark();
    }

    int trace(int i) {
        return out(i, 0, Math.min(16, trace.size()) - 1) ? NONE : trace.get(i);
    }

    int count(int what) {
        switch (what) {
            case 0:
                return (int) Arrays.stream(rows).filter(r -> r != null).count();
            case 1:
                return now == null ? 0 : now.people.size();
            case 2:
                return now == null ? 0 : now.song.length();
            case 3:
                return now == null ? 0 : now.gone % now.song.length();
            case 4:
                return now == null ? 0 : now.gone;
            case 5:
                return now == null ? 0 : now.pace();
            case 6:
                return now == null ? 0 : now.law[3];
            case 7:
                return past.size();
            case 8:
                return tape.length();
            default:
                return BAD;
        }
    }

    int status() {
        return status;
    }
}
