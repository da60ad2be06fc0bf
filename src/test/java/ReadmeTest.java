import java.io.IOException;
import java.nio.file.Files;
import java.nio.file.Path;
import java.util.Set;
import java.util.TreeMap;
import java.util.TreeSet;
import java.util.regex.Matcher;
import java.util.regex.Pattern;

/** What README.md says: its example answers so, and its tables name every call and its refusals. */
public final class ReadmeTest {
    private static final Pattern TYPED = Pattern.compile("for \\(char c : \"([^\"]*)\"");
    private static final Pattern EXAMPLE = Pattern.compile("(?m)^wall\\.(\\w+\\([^)]*\\));\\s*// (-?\\w+)");
    private static final Pattern ROW = Pattern.compile("(?m)^\\| `(\\w+)\\(([^)]*)\\)`[^|]*\\|[^|]*\\|([^|]*)\\|$");
    private static final Pattern PROMISE = Pattern.compile("`(?:int|long) (\\w+)\\(([^)]*)\\)`: ([^\n]*)");
    private static final Pattern REFUSAL = Pattern.compile("\\b(BAD|STATE|FULL|NONE|NO)\\b");

    public static void main(String[] args) throws IOException {
        String readme = Files.readString(Path.of("README.md"));
        String document = Files.readString(Path.of("../shared/DOC.md"));
        Sheet sheet = new Sheet();
        example(sheet, readme);
        sheet.due("the calls, their numbers and refusals: 0 is alike", alike(sheet, calls(ROW, readme), calls(PROMISE, document)), 0);
        System.exit(sheet.end("ReadmeTest"));
    }

    private static void example(Sheet sheet, String readme) {
        Matcher text = TYPED.matcher(readme);
        Desk desk = sheet.desk();
        while (text.find()) desk.types(text.group(1));
        int rows = 0;
        Matcher m = EXAMPLE.matcher(readme);
        while (m.find()) {
            rows++;
            desk.run(m.group(1) + "=" + m.group(2));
        }
        Matcher all = Pattern.compile("(?m)^wall\\.").matcher(readme);
        sheet.due("rows of the example with their answers", rows, all.results().count());
        if (rows == 0) sheet.wrong("README.md has no example");
    }

    /** By each call's name: its numbers' names, and the refusals told of it. */
    private static TreeMap<String, String> calls(Pattern pattern, String page) {
        TreeMap<String, String> calls = new TreeMap<>();
        Matcher m = pattern.matcher(page);
        while (m.find()) {
            Set<String> refusals = new TreeSet<>();
            Matcher r = REFUSAL.matcher(m.group(3));
            while (r.find()) refusals.add(r.group(1));
            calls.put(m.group(1), m.group(2).replace("int ", "") + " " + refusals);
        }
        return calls;
    }

    private static int alike(Sheet sheet, TreeMap<String, String> said, TreeMap<String, String> due) {
        Set<String> names = new TreeSet<>(due.keySet());
        names.addAll(said.keySet());
        int unlike = 0;
        for (String name : names) {
            if (due.containsKey(name) && due.get(name).equals(said.get(name))) continue;
            unlike++;
            sheet.wrong("README.md says of " + name + ": " + said.get(name) + ", the document: " + due.get(name));
        }
        sheet.due("how many calls the document has", due.size(), 28);
        return unlike;
    }
}
