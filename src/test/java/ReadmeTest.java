import java.io.IOException;
import java.nio.file.Files;
import java.nio.file.Path;
import java.util.HashMap;
import java.util.List;
import java.util.Map;
import java.util.Set;
import java.util.TreeMap;
import java.util.TreeSet;
import java.util.regex.Matcher;
import java.util.regex.Pattern;

/** What README.md says holds: its example's answers, its table of calls with their refusals, its list of tests. */
public final class ReadmeTest {
    private static final Pattern LINE = Pattern.compile("(?:int (\\w+) = )?village\\.(.+);\\s+// (-?\\d+)\\b.*");
    private static final Pattern CALL = Pattern.compile("\\| `(\\w+)\\(([^`]*)\\)` \\|[^|]+\\|([^|]*)\\|");
    private static final Pattern METHOD = Pattern.compile(" {4}public int (\\w+)\\(([^)]*)\\) \\{");
    private static final int RUNS = 200;

    public static void main(String[] args) throws IOException {
        List<String> page = Files.readAllLines(Path.of("README.md"));
        example(page);
        calls(page);
        refusals(page);
        tests(page);
        Check.end();
    }

    // ---- the example

    private static void example(List<String> page) {
        int from = page.indexOf("```java"), to = from + page.subList(from, page.size()).indexOf("```");
        Check.due("an example", from >= 0 && to > from + 2);
        Check.due("it begins with a village", page.get(from + 1), "StoneVillage village = new StoneVillage();");
        StoneVillage village = new StoneVillage();
        Map<String, Integer> names = new HashMap<>();
        for (String line : page.subList(from + 2, to)) {
            Matcher m = LINE.matcher(line);
            Check.due("can be read: " + line, m.matches());
            if (!m.matches()) continue;
            int answer = value(village, m.group(2), names);
            Check.due(line, answer, Integer.parseInt(m.group(3)));
            if (m.group(1) != null) names.put(m.group(1), answer);
        }
    }

    /** The value of a number, a name, a call, or of some joined by << or by a weaker |. */
    private static int value(StoneVillage village, String text, Map<String, Integer> names) {
        String word = text.trim();
        if (word.startsWith("village.")) word = word.substring("village.".length());
        int open = word.indexOf('(');
        if (open > 0) return call(village, word.substring(0, open), word.substring(open + 1, word.length() - 1), names);
        int or = word.lastIndexOf('|'), shift = word.lastIndexOf("<<");
        if (or > 0) return value(village, word.substring(0, or), names) | value(village, word.substring(or + 1), names);
        if (shift > 0) return value(village, word.substring(0, shift), names) << value(village, word.substring(shift + 2), names);
        return names.containsKey(word) ? names.get(word) : Integer.parseInt(word);
    }

    private static int call(StoneVillage village, String name, String numbers, Map<String, Integer> names) {
        String[] words = numbers.split(",");
        int[] c = new int[6];
        for (int i = 0; i < words.length; i++) c[i] = value(village, words[i], names);
        return Calls.ask(village, name, c);
    }

    // ---- the calls

    private static void calls(List<String> page) throws IOException {
        Map<String, String> told = new TreeMap<>(), stand = new TreeMap<>();
        for (String line : page) {
            Matcher m = CALL.matcher(line);
            if (m.matches()) told.put(m.group(1), m.group(2));
        }
        for (String line : Files.readAllLines(Path.of("src/main/java/StoneVillage.java"))) {
            Matcher m = METHOD.matcher(line);
            if (m.matches()) stand.put(m.group(1), m.group(2).replace("int ", ""));
        }
        Check.due("calls found in the program", stand.size(), 32);
        Check.due("calls told " + told, told.toString(), stand.toString());
    }

    private static void refusals(List<String> page) {
        Map<String, Set<Integer>> given = RandomTest.refusals(RUNS);
        for (String line : page) {
            Matcher m = CALL.matcher(line);
            if (!m.matches()) continue;
            Set<Integer> told = new TreeSet<>();
            int less = m.group(3).contains("less 10") ? 10 : 0;
            for (String word : m.group(3).replace("less 10", "").split(",")) {
                if (!word.isBlank()) told.add(numberOf(word.trim()) - less);
            }
            Check.due("refusals of " + m.group(1), told.toString(), given.get(m.group(1)).toString());
        }
    }

    private static int numberOf(String refusal) {
        switch (refusal) {
            case "BAD": return StoneVillage.BAD;
            case "NOT": return StoneVillage.NOT;
            case "FULL": return StoneVillage.FULL;
            case "NONE": return StoneVillage.NONE;
            case "NULL": return StoneVillage.NULL;
            case "CAST": return StoneVillage.CAST;
            case "INDEX": return StoneVillage.INDEX;
            case "SIZE": return StoneVillage.SIZE;
            default: throw new IllegalArgumentException("no refusal " + refusal);
        }
    }

    // ---- the tests

    private static void tests(List<String> page) throws IOException {
        Set<String> told = new TreeSet<>(), stand = new TreeSet<>();
        for (String line : page) if (line.matches("\\| \\w+Test \\|.*")) told.add(line.substring(2, line.indexOf(" |")));
        try (var files = Files.list(Path.of("src/test/java"))) {
            for (Path file : (Iterable<Path>) files::iterator) {
                String name = file.getFileName().toString();
                if (name.endsWith("Test.java")) stand.add(name.substring(0, name.length() - ".java".length()));
            }
        }
        Check.due("tests told", told.toString(), stand.toString());
    }
}
