import java.io.File;
import java.lang.reflect.Method;
import java.lang.reflect.Modifier;
import java.nio.file.Files;
import java.nio.file.Path;
import java.util.Arrays;
import java.util.Map;
import java.util.Set;
import java.util.TreeSet;
import java.util.regex.Matcher;
import java.util.regex.Pattern;

/** README.md: the run that it shows is made, each answer must be the one shown; no call, class or test is left out. */
public final class ReadmeTest {
    private static final int MOST_CALLS = 512;
    private static final Map<String, Integer> NAMES =
        Map.of("NONE", BandPace.NONE, "BAD", BandPace.BAD, "STATE", BandPace.STATE, "FULL", BandPace.FULL);
    private static final Pattern MADE = Pattern.compile("BandPace x = new BandPace\\(\\);");
    private static final Pattern FED = Pattern.compile("for \\(char c : \"([^\"]*)\"\\.toCharArray\\(\\)\\) \\{");
    private static final Pattern CALL = Pattern.compile("x\\.(\\w+)\\(([-0-9, ]*)\\);\\s+// (NONE|BAD|STATE|FULL|-?\\d+)(?:: .+)?");
    private static final Pattern PART_OF_FEEDING = Pattern.compile(" {4}x\\.feed\\(c\\);|\\}");

    private BandPace x;
    private int calls;
    private final Set<String> shown = new TreeSet<>();

    public static void main(String[] args) throws Exception {
        String page = Files.readString(Path.of("README.md"));
        new ReadmeTest().go(page);
        names(page);
        holds("how to run the tests", page.contains("bash .ci/run"));
        Checks.end("ReadmeTest");
    }

    private static void holds(String what, boolean holds) {
        Checks.due("README.md: " + what + " (1: it holds)", holds ? 1 : 0, 1);
    }

    private void go(String page) throws Exception {
        Matcher block = Pattern.compile("(?s)```java\n(.*?)```").matcher(page);
        while (block.find()) {
            for (String line : block.group(1).split("\n")) {
                take(line);
            }
        }
        holds("no more calls than an object is good for", calls <= MOST_CALLS);
        Set<String> face = new TreeSet<>();
        for (Method m : BandPace.class.getDeclaredMethods()) {
            if (Modifier.isPublic(m.getModifiers())) {
                face.add(m.getName());
            }
        }
        face.removeAll(shown);
        holds("calls that are not shown: " + face, face.isEmpty());
    }

    private void take(String line) throws Exception {
        Matcher fed = FED.matcher(line);
        Matcher call = CALL.matcher(line);
        if (MADE.matcher(line).matches()) {
            holds("one object alone", x == null);
            x = new BandPace();
        } else if (fed.matches()) {
            feed(fed.group(1));
        } else if (call.matches()) {
            String told = call.group(3);
            int want = NAMES.containsKey(told) ? NAMES.get(told) : Integer.parseInt(told);
            Checks.due("README.md: " + line, answer(call.group(1), call.group(2)), want);
        } else {
            holds("a line that can be tried: " + line, PART_OF_FEEDING.matcher(line).matches());
        }
    }

    private void feed(String text) {
        for (char c : text.toCharArray()) {
            x.feed(c);
            calls++;
        }
        shown.add("feed");
    }

    private int answer(String name, String told) throws Exception {
        Object[] args = told.isBlank() ? new Object[0]
            : Arrays.stream(told.split(",")).map(v -> Integer.valueOf(v.trim())).toArray();
        Class<?>[] types = new Class<?>[args.length];
        Arrays.fill(types, int.class);
        calls++;
        shown.add(name);
        return (Integer) BandPace.class.getMethod(name, types).invoke(x, args);
    }

    /** Each test, and each class inside, has its line in a table, and no line is of one that is not there. */
    private static void names(String page) {
        Set<String> there = new TreeSet<>();
        for (Class<?> c : BandPace.class.getDeclaredClasses()) {
            there.add(c.getSimpleName());
        }
        String[] files = new File("src/test/java").list();
        for (String file : files == null ? new String[0] : files) {
            if (file.endsWith("Test.java")) {
                there.add(file.substring(0, file.length() - ".java".length()));
            }
        }
        Set<String> listed = new TreeSet<>();
        Matcher row = Pattern.compile("(?m)^\\| `([A-Z]\\w*)` \\|").matcher(page);
        while (row.find()) {
            listed.add(row.group(1));
        }
        holds("the tables name " + listed + ", there are " + there, listed.equals(there));
    }
}
