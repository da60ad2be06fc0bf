import java.lang.reflect.Method;
import java.util.HashMap;
import java.util.Map;
import java.util.regex.Matcher;
import java.util.regex.Pattern;

/** One object of the class, and the calls on it: 512 at most, as more are not promised. */
final class Desk {
    private static final int MOST_CALLS = 512;
    private static final Pattern ROW = Pattern.compile("\\s*(\\w+)\\(([^)]*)\\)(?:=(-?\\w+))?\\s*");
    private static final Map<String, Method> METHODS = new HashMap<>();

    static {
        for (Method m : ApologyBricks.class.getMethods()) {
            if (m.getDeclaringClass() == ApologyBricks.class) METHODS.put(m.getName(), m);
        }
    }

    private final Sheet sheet;
    private final ApologyBricks bricks = new ApologyBricks();
    private final StringBuilder done = new StringBuilder("new");
    private int calls = 0;

    Desk(Sheet sheet) {
        this.sheet = sheet;
    }

    /** One call without a due answer. */
    long call(String name, Object... numbers) {
        calls++;
        if (calls > MOST_CALLS) throw new IllegalStateException("the test calls more than 512 times: " + lately());
        try {
            return ((Number) METHODS.get(name).invoke(bricks, numbers)).longValue();
        } catch (ReflectiveOperationException e) {
            throw new IllegalStateException(lately() + " " + name, e);
        }
    }

    /** Rows as 'lays(0, 1)=2 undo()=STATE'; of a call without '=' any answer will do. */
    Desk run(String rows) {
        Matcher m = ROW.matcher(rows);
        for (int at = 0; at < rows.length(); at = m.end()) {
            if (!m.region(at, rows.length()).lookingAt()) {
                throw new IllegalArgumentException("no row of calls: " + rows.substring(at));
            }
            long got = call(m.group(1), numbers(m.group(2)));
            done.append(' ').append(m.group(1)).append('(').append(m.group(2)).append(')');
            if (m.group(3) != null) sheet.due(this, got, number(m.group(3)));
        }
        return this;
    }

    Desk times(int n, String rows) {
        for (int i = 0; i < n; i++) run(rows);
        return this;
    }

    Desk types(String words) {
        for (int i = 0; i < words.length(); i++) call("type", (int) words.charAt(i));
        done.append(" '").append(words).append("'");
        return this;
    }

    /** Types a text that has no fault, and has it read. */
    Desk told(String words) {
        types(words);
        if (call("chapter") < 0) sheet.wrong("the test's own text has a fault: " + words);
        done.append(" chapter()");
        return this;
    }

    /** All bricks come, and are read. */
    Desk allRead() {
        for (int h = 0; h < 6; h++) call("prompts", h);
        for (int b = 0; b < call("count", 2); b++) call("reads", b);
        done.append(" (all have come and are read)");
        return this;
    }

    /** The calls till now; of a long run the last of them. */
    String lately() {
        return done.length() <= 400 ? done.toString() : ".." + done.substring(done.length() - 400);
    }

    private static Object[] numbers(String list) {
        if (list.isBlank()) return new Object[0];
        String[] words = list.split(",");
        Object[] all = new Object[words.length];
        for (int i = 0; i < words.length; i++) all[i] = (int) number(words[i].trim());
        return all;
    }

    private static long number(String word) {
        switch (word) {
            case "BAD": return -1;
            case "STATE": return -2;
            case "FULL": return -3;
            case "NONE": return -9;
            case "NO": return -1000000;
            case "MIN": return Integer.MIN_VALUE;
            case "MAX": return Integer.MAX_VALUE;
            default: return Long.parseLong(word);
        }
    }
}
