import java.lang.reflect.InvocationTargetException;
import java.lang.reflect.Method;
import java.lang.reflect.Modifier;
import java.util.ArrayList;
import java.util.Arrays;
import java.util.Comparator;
import java.util.List;
import java.util.Random;

/** Random runs of calls, every answer compared with that of the Model; nothing may be thrown. */
public final class ModelTest {
    private static final int RUNS = 1500, CALLS = 512;
    /** The longest step that is not a text, pushRow, so that no run goes beyond the calls of one object. */
    private static final int STEP = 16;
    private static final int[] EDGES = {-1, 0, 1, 2, 5, 6, 8, 10, 20, 24, 25, 40, 41, 99, 100, 200, 201, 299, 300, 999, 2500, 2501,
        999999, 1000000, Integer.MAX_VALUE, Integer.MIN_VALUE, Integer.MAX_VALUE - 1, -2, 255, 256};

    private final Random random;
    private final List<String> log = new ArrayList<>();
    private final BandPace real = new BandPace();
    private final Model model = new Model();
    private int calls;
    private boolean parted;

    private ModelTest(long seed) {
        random = new Random(seed);
    }

    public static void main(String[] args) throws Exception {
        List<Method> face = face();
        for (int run = 0; run < RUNS; run++) {
            if (!new ModelTest(run).go(face)) {
                Checks.end("ModelTest");
            }
        }
        Checks.end("ModelTest");
    }

    private static List<Method> face() {
        List<Method> face = new ArrayList<>();
        for (Method m : BandPace.class.getDeclaredMethods()) {
            if (Modifier.isPublic(m.getModifiers())) {
                face.add(m);
            }
        }
        face.sort(Comparator.comparing(Method::getName));
        return face;
    }

    private boolean go(List<Method> face) throws Exception {
        if (random.nextInt(10) > 0) {
            tell(goodText());
        }
        while (calls <= CALLS - STEP && !parted) {
            int way = random.nextInt(100);
            if (way < 2 && calls < CALLS - 145) {
                tell(random.nextBoolean() ? goodText() : spoilt(goodText()));
            } else if (way < 5) {
                pushRow();
            } else {
                Method m = face.get(random.nextInt(face.size()));
                call(m.getName(), arguments(m.getName(), m.getParameterCount()));
            }
        }
        return !parted;
    }

    private int call(String name, int... args) throws Exception {
        calls++;
        Class<?>[] types = new Class<?>[args.length];
        Arrays.fill(types, int.class);
        Object[] boxed = Arrays.stream(args).boxed().toArray();
        String told = name + Arrays.toString(args);
        log.add(told);
        int want = (Integer) Model.class.getDeclaredMethod(name, types).invoke(model, boxed);
        int got;
        try {
            got = (Integer) BandPace.class.getMethod(name, types).invoke(real, boxed);
        } catch (InvocationTargetException thrown) {
            System.out.println(told + " threw " + thrown.getCause());
            got = want + 1;
        }
        Checks.due("call " + calls + " of " + log, got, want);
        parted |= got != want;
        return got;
    }

    private void tell(String text) throws Exception {
        for (char c : text.toCharArray()) {
            call("feed", c);
        }
        call("band");
        call("fault");
    }

    private int upTo(int most) {
        return random.nextInt(most + 1);
    }

    private String goodText() {
        StringBuilder t = new StringBuilder();
        t.append('b').append(upTo(20)).append(',').append(upTo(20)).append(',').append(upTo(20));
        t.append(',').append(40 + upTo(59)).append(";z");
        for (int n = 1 + upTo(11); n > 0; n--) {
            t.append("efqch".charAt(upTo(4)));
        }
        t.append(';');
        int players = 1 + upTo(4);
        for (int p = 0; p < players; p++) {
            t.append("trdkl".charAt(upTo(4))).append(40 + upTo(59)).append(',').append(upTo(9)).append(';');
        }
        List<String> ears = new ArrayList<>();
        for (int n = upTo(12); n > 0 && players > 1; n--) {
            int i = upTo(players - 1);
            int j = upTo(players - 1);
            String pair = "w" + i + "," + j + ",";
            if (i != j && !ears.contains(pair) && t.length() + 7 <= 140) {
                ears.add(pair);
                t.append(pair).append(1 + upTo(8)).append(';');
            }
        }
        return t.toString();
    }

    private String spoilt(String text) {
        StringBuilder t = new StringBuilder(text);
        for (int n = 1 + upTo(1); n > 0 && t.length() > 1; n--) {
            int at = upTo(t.length() - 1);
            char sign = "0123456789,;befqchztrdklwx A".charAt(upTo(27));
            int way = upTo(4);
            if (way == 0) {
                t.setLength(at);
            } else if (way == 1) {
                t.deleteCharAt(at);
            } else if (way == 2) {
                t.setCharAt(at, sign);
            } else if (way == 3 && t.length() < 140) {
                t.insert(at, sign);
            } else {
                int semi = t.lastIndexOf(";", Math.max(0, t.length() - 2));
                String again = t.substring(semi + 1);
                for (int k = 1 + upTo(9); k > 0 && t.length() + again.length() <= 140; k--) {
                    t.append(again);
                }
            }
        }
        return t.toString();
    }

    /** A row that somebody who pushed could have left, so that whoPushed has something to find. */
    private void pushRow() throws Exception {
        int players = Math.max(1, call("count", 1));
        call("row", 0, 1 + upTo(1), players);
        int pusher = upTo(players - 1);
        for (int p = 0; p < players; p++) {
            int pace = Math.max(0, call("ahead", p, 1));
            call("set", 0, p, pace + (p == pusher ? upTo(21) : 0));
        }
        call("whoPushed", 0, 0, 0);
        call("whoPushed", 0, 0, 1);
        call("songs", 0, 0, players, upTo(players) - 1);
    }

    private int[] arguments(String name, int n) {
        int[] a = new int[n];
        int[] most = usual(name, n);
        for (int k = 0; k < n; k++) {
            a[k] = random.nextInt(25) == 0 ? EDGES[upTo(EDGES.length - 1)] : most[2 * k] + upTo(most[2 * k + 1]);
        }
        return a;
    }

    /** For each argument the least that is usual, and how many more there are. */
    private int[] usual(String name, int n) {
        switch (name) {
            case "row":
                return new int[]{0, 3, 0, 2, 0, 40};
            case "set":
                return new int[]{0, 3, 0, 30, -100, random.nextBoolean() ? 1200 : 70000};
            case "copy":
                return new int[]{0, 3, 0, 9, 0, 3, 0, 9, 0, 9};
            case "drop":
                return new int[]{0, 40};
            case "feed":
                return new int[]{0, 255};
            case "bars":
                return new int[]{1, random.nextInt(8) == 0 ? 23 : 2};
            case "pace":
                return new int[]{0, 4, 300, random.nextBoolean() ? 2200 : 700};
            case "hears":
                return new int[]{0, 4, 0, 4, 0, 9};
            case "click":
                return new int[]{40, 59};
            case "claps":
                return new int[]{1, 98};
            case "player":
                return new int[]{0, 4, 0, 3};
            case "ahead":
                return new int[]{-1, 5, 0, 60};
            case "noticed":
                return new int[]{1, 199, 0, 40};
            case "dancers":
                return new int[]{0, 3, 0, 6, 1, 6, 0, 40, 0, 1};
            case "countIn":
                return new int[]{0, 30, 300, 900};
            case "back":
                return new int[]{0, 4, 1, 30, 1, 20, 300, 900};
            case "songs":
                return new int[]{0, 3, 0, 9, 1, 5, -1, 6};
            case "clapped":
                return new int[]{1, 98, 0, 40};
            case "whoPushed":
                return new int[]{0, 3, 0, 6, 0, 1};
            case "night":
                return new int[]{0, 100, 1, 999998, 0, 1};
            case "bar":
                return new int[]{0, 11};
            case "as":
                return new int[]{0, 4, 0, 5};
            case "trace":
                return new int[]{0, 6};
            case "count":
                return new int[]{0, 8};
            case "ear":
                return new int[]{0, 4, 0, 4};
            case "ask":
                return new int[]{0, 4, 0, 1};
            case "kind":
            case "blame":
                return new int[]{0, 4};
            default:
                int[] plain = new int[2 * n];
                for (int k = 0; k < n; k++) {
                    plain[2 * k + 1] = 1;
                }
                return plain;
        }
    }
}
