import java.lang.reflect.Constructor;
import java.lang.reflect.Field;
import java.lang.reflect.Method;
import java.lang.reflect.Modifier;
import java.nio.file.Files;
import java.nio.file.Path;
import java.util.ArrayList;
import java.util.HashMap;
import java.util.HashSet;
import java.util.List;
import java.util.Map;
import java.util.Set;
import java.util.TreeSet;
import java.util.regex.Matcher;
import java.util.regex.Pattern;

/** The face of the document, and those rules of LANGUAGE.md that can be seen from outside or in the text. */
public final class LanguageTest {
    private static final String FACE = "row 3 set 3 copy 5 drop 1 feed 1 band 0 fault 0 undo 0 bars 1 pace 2 hears 3 click 1 claps 1"
        + " player 2 ear 2 bar 1 ahead 2 drift 0 round 1 noticed 2 dancers 5 countIn 2 deaf 1 inEar 1 blame 1 back 4 songs 4"
        + " clapped 2 whoPushed 3 night 3 image 1 restore 1 kind 1 as 2 ask 2 trace 1 count 1 status 0";
    private static final Set<String> LIBRARY = Set.of("String", "StringBuilder", "Integer", "Long", "Math", "System");

    public static void main(String[] args) throws Exception {
        face();
        classesInside();
        words();
        lengths();
        Checks.end("LanguageTest");
    }

    private static void holds(String rule, boolean holds) {
        Checks.due(rule + " (1: it holds)", holds ? 1 : 0, 1);
    }

    private static void face() {
        Map<String, Integer> due = new HashMap<>();
        String[] words = FACE.split(" ");
        for (int k = 0; k < words.length; k += 2) {
            due.put(words[k], Integer.parseInt(words[k + 1]));
        }
        int seen = 0;
        for (Method m : BandPace.class.getDeclaredMethods()) {
            if (Modifier.isPrivate(m.getModifiers())) {
                holds("no private " + m.getName(), !due.containsKey(m.getName()));
                continue;
            }
            seen++;
            holds("public " + m.getName(), Modifier.isPublic(m.getModifiers()) && !Modifier.isStatic(m.getModifiers()));
            Checks.due("arguments of " + m.getName(), m.getParameterCount(), due.getOrDefault(m.getName(), -1));
            holds(m.getName() + " answers an int", m.getReturnType() == int.class);
            for (Class<?> type : m.getParameterTypes()) {
                holds(m.getName() + " takes ints", type == int.class);
            }
        }
        Checks.due("methods of the face", seen, due.size());
        Constructor<?>[] made = BandPace.class.getDeclaredConstructors();
        Checks.due("constructors", made.length, 1);
        holds("the constructor", Modifier.isPublic(made[0].getModifiers()) && made[0].getParameterCount() == 0);
        holds("public and final", Modifier.isPublic(BandPace.class.getModifiers()) && Modifier.isFinal(BandPace.class.getModifiers()));
        Set<String> open = new TreeSet<>();
        for (Field f : BandPace.class.getDeclaredFields()) {
            if (!Modifier.isPrivate(f.getModifiers())) {
                open.add(f.getName());
            }
        }
        holds("the constants: " + open, open.equals(Set.of("NONE", "BAD", "STATE", "FULL")));
    }

    private static void classesInside() {
        List<Class<?>> all = new ArrayList<>(List.of(BandPace.class.getDeclaredClasses()));
        holds("some twelve classes", all.size() <= 11);
        for (Class<?> c : all) {
            int m = c.getModifiers();
            holds(c + " is static and not open", Modifier.isStatic(m) && !Modifier.isPublic(m) && !Modifier.isProtected(m));
            for (Method inside : c.getDeclaredMethods()) {
                holds(c + "." + inside.getName() + " is no name of the face",
                    !(" " + FACE + " ").contains(" " + inside.getName() + " "));
            }
        }
        all.add(BandPace.class);
        for (Class<?> c : all) {
            int own = 0;
            for (Field f : c.getDeclaredFields()) {
                if (Modifier.isStatic(f.getModifiers())) {
                    holds(f + " is final", Modifier.isFinal(f.getModifiers()));
                } else {
                    own++;
                }
            }
            holds("fields of " + c, own <= 20);
            for (Method m : c.getDeclaredMethods()) {
                holds("parameters of " + m, m.getParameterCount() <= 7 && !m.isSynthetic());
            }
        }
    }

    private static String source() throws Exception {
        String text = Files.readString(Path.of("src/main/java/BandPace.java"));
        return text.replaceAll("(?s)/\\*.*?\\*/", "").replaceAll("//[^\n]*", "");
    }

    private static void words() throws Exception {
        String text = source();
        Set<String> own = new HashSet<>(LIBRARY);
        own.add("BandPace");
        for (Class<?> c : BandPace.class.getDeclaredClasses()) {
            own.add(c.getSimpleName());
        }
        Matcher m = Pattern.compile("[A-Za-z_]\\w*").matcher(text);
        Set<String> ruledOut = Set.of("throw", "throws", "try", "catch", "synchronized", "assert", "import", "package",
            "instanceof", "volatile", "native", "equals", "hashCode", "toString", "Object", "Exception", "yield", "var");
        while (m.find()) {
            String word = m.group();
            holds("no word " + word, !ruledOut.contains(word) && !word.endsWith("Exact"));
            if (word.matches("[A-Z]+[a-z]\\w*")) {
                holds("no library but what is listed: " + word, own.contains(word));
            }
        }
        holds("no lambda", !text.contains("->"));
        holds("no method reference", !text.contains("::"));
        holds("no text joined by +", !text.contains("\""));
        holds("no sign above 127", text.chars().allMatch(c -> c < 128));
    }

    /** Methods stay short, and objects are made in constructors alone, so that no call fills the room. */
    private static void lengths() throws Exception {
        String[] lines = source().split("\n");
        String head = "";
        String close = "";
        int from = 0;
        for (int k = 0; k < lines.length; k++) {
            String line = lines[k];
            if (line.matches(" {4}(?: {4})?(?! |(?:for|if|while|switch|else)\\b)[\\w\\[\\] ]+\\(.*\\) \\{")) {
                head = line.trim();
                close = line.substring(0, line.indexOf(head)) + "}";
                from = k;
            }
            holds("a method is long: " + head, head.isEmpty() || k - from <= 60);
            if (line.equals(close)) {
                head = "";
            }
            if (line.matches(".*\\bnew\\b.*")) {
                holds("made in a constructor: " + line, head.matches("(public )?[A-Z]\\w*\\(\\) \\{"));
            }
        }
    }
}
