import java.io.IOException;
import java.lang.reflect.Constructor;
import java.lang.reflect.Field;
import java.lang.reflect.Method;
import java.lang.reflect.Modifier;
import java.nio.file.Files;
import java.nio.file.Path;
import java.util.Set;
import java.util.TreeSet;

/** The public face, and those rules of LANGUAGE.md that words or reflection show. */
public final class FaceTest {
    private static final String[] METHODS = {"person 1", "years 1", "dies 1", "told 2", "stone 2", "moves 2", "act 6",
        "about 2", "knows 2", "tell 3", "parts 3", "bound 3", "holds 2", "owner 2", "worth 2", "wealth 2", "quarrel 3",
        "weight 3", "split 0", "ban 1", "feast 3", "kept 1", "fewest 1", "teller 2", "count 1", "cross 1", "works 3",
        "worked 1", "sheet 3", "drop 1", "item 4", "acts 4"};
    private static final String[] CONSTANTS = {"BAD -1", "NOT -2", "FULL -3", "NONE -4", "NULL -11", "CAST -12",
        "INDEX -13", "SIZE -14"};

    public static void main(String[] args) throws IOException, IllegalAccessException {
        methods();
        constants();
        constructor();
        nested();
        words();
        room();
        Check.end();
    }

    private static void methods() {
        Set<String> want = new TreeSet<>(Set.of(METHODS)), got = new TreeSet<>(), names = new TreeSet<>();
        for (String text : METHODS) names.add(text.substring(0, text.indexOf(' ')));
        for (Method m : StoneVillage.class.getDeclaredMethods()) {
            String text = m.getName() + " " + m.getParameterCount();
            if (Modifier.isPublic(m.getModifiers())) {
                got.add(text);
                Check.due(text + " answers an int", m.getReturnType() == int.class && !Modifier.isStatic(m.getModifiers()));
                for (Class<?> p : m.getParameterTypes()) Check.due(text + " takes ints", p == int.class);
            } else {
                Check.due(text + " is private", Modifier.isPrivate(m.getModifiers()));
                Check.due(text + " has a name of its own", !names.contains(m.getName()));
                Check.due(text + " takes seven at most", m.getParameterCount() <= 7);
            }
        }
        Check.due("public methods " + got, got.equals(want));
    }

    private static void constants() throws IllegalAccessException {
        Set<String> want = new TreeSet<>(Set.of(CONSTANTS)), got = new TreeSet<>();
        for (Field f : StoneVillage.class.getDeclaredFields()) {
            int flags = f.getModifiers();
            if (Modifier.isStatic(flags)) Check.due(f.getName() + " is final", Modifier.isFinal(flags));
            if (Modifier.isPublic(flags)) got.add(f.getName() + " " + f.getInt(null));
            else Check.due(f.getName() + " is private", Modifier.isPrivate(flags));
        }
        Check.due("public constants " + got, got.equals(want));
    }

    private static void constructor() {
        Constructor<?>[] all = StoneVillage.class.getDeclaredConstructors();
        Check.due("constructors", all.length, 1);
        Check.due("it is public and takes nothing", Modifier.isPublic(all[0].getModifiers()) && all[0].getParameterCount() == 0);
        Check.due("the class is final", Modifier.isFinal(StoneVillage.class.getModifiers()));
    }

    private static void nested() {
        Class<?>[] classes = StoneVillage.class.getDeclaredClasses();
        Check.due("at most twelve classes", classes.length < 12);
        for (Class<?> c : classes) {
            Check.due(c + " is static", Modifier.isStatic(c.getModifiers()));
            Check.due(c + " is not public", !Modifier.isPublic(c.getModifiers()) && !Modifier.isProtected(c.getModifiers()));
            Check.due(c + " has few fields", c.getDeclaredFields().length <= 20);
        }
    }

    /** All calls of a run live in one room: objects are made in the constructors alone, and no call makes one. */
    private static void room() throws IOException {
        for (String line : Files.readAllLines(Path.of("src/main/java/StoneVillage.java"))) {
            if (!line.matches(".*\\bnew\\b.*") || line.trim().matches("//.*|\\*.*|/\\*.*")) continue;
            boolean inConstructor = line.matches(" {8}\\w+ = new \\w+(\\(\\)|\\[.*\\]);");
            boolean ofField = line.matches(" {8}final \\w+\\[\\] \\w+ = new \\w+\\[.*\\];");
            Check.due("made ahead of all calls: " + line.trim(), inConstructor || ofField);
        }
        StoneVillage x = new StoneVillage();
        for (Field f : x.getClass().getDeclaredFields()) {
            if (!Modifier.isStatic(f.getModifiers()) && !f.getType().isPrimitive()) {
                Check.due(f.getName() + " is made once", Modifier.isFinal(f.getModifiers()));
            }
        }
    }

    private static void words() throws IOException {
        String source = Files.readString(Path.of("src/main/java/StoneVillage.java"));
        for (char sign : source.toCharArray()) Check.due("sign " + (int) sign, sign < 128);
        String code = source.replaceAll("(?s)/\\*.*?\\*/", " ").replaceAll("//[^\n]*", " ");
        String[] forbidden = {"throw", "throws", "try", "catch", "finally", "synchronized", "assert", "import", "package",
            "hashCode", "equals", "toString", "volatile", "System.(?!arraycopy)\\w+", "Thread", "Random", "Object"};
        for (String word : forbidden) {
            Check.due("word " + word, !java.util.regex.Pattern.compile("\\b" + word + "\\b").matcher(code).find());
        }
        Check.due("no lambda, no method reference", !code.contains("->") && !code.contains("::"));
    }
}
