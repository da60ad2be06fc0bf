import java.io.IOException;
import java.lang.management.ManagementFactory;
import java.lang.reflect.Constructor;
import java.lang.reflect.Field;
import java.lang.reflect.Method;
import java.lang.reflect.Modifier;
import java.nio.file.Files;
import java.nio.file.Path;
import java.util.Arrays;
import java.util.HashSet;
import java.util.Map;
import java.util.Set;
import java.util.TreeMap;
import java.util.TreeSet;
import java.util.regex.Matcher;
import java.util.regex.Pattern;

/** The rules of LANGUAGE.md that can be looked up: the face, words that are ruled out, objects made. */
public final class LanguageTest {
    private static final String SOURCE = "src/main/java/ApologyBricks.java";
    private static final String[] FACE = {
        "int ask()", "int apology(int,int)", "int back(int)", "int brick(int,int)", "int chapter()", "int clear()",
        "int count(int)", "int falls(int)", "int forget()", "int hears(int,int)", "int judge(int,int)",
        "int keep(int)", "int kin(int)", "int lays(int,int)", "int letters(int)", "int mark(int,int)",
        "int now(int)", "int odds(int,int)", "int place(int,int)", "int prompts(int)", "int reads(int)",
        "int turn(int,int)", "int type(int)", "int undo()", "int wall(int)", "int worths(int)",
        "int writes(int,int)", "long trace()"};
    private static final String[] RULED_OUT = {
        "\\bthrow\\b", "\\btry\\b", "\\bcatch\\b", "\\bsynchronized\\b", "\\bassert\\b", "->", "::", "\\bpackage\\b",
        "\\bprotected\\b", "@", "\\bObject\\b", "\\bSystem\\.(?!arraycopy\\b)", "\\bMath\\.\\w*Exact\\b", "\\bThread\\b",
        "\\bRandom\\b", "\\.hashCode\\b", "\\.toString\\b", "\\bimport (?!java\\.util\\.(Arrays|ArrayList|List|Iterator);)"};
    private static final Set<String> FIELD_TYPES = Set.of("int", "long", "boolean", "int[]", "long[]", "boolean[]", "int[][]");
    private static final int MOST_LINES = 60, MOST_FIELDS = 20, MOST_DEEP = 8;
    private static int wrong = 0;

    private static void hold(boolean right, String what) {
        if (!right) {
            wrong++;
            System.out.println("LanguageTest: " + what);
        }
    }

    public static void main(String[] args) throws IOException {
        face();
        nested();
        fields(ApologyBricks.class);
        for (Class<?> c : ApologyBricks.class.getDeclaredClasses()) fields(c);
        words();
        methods();
        objectsMade();
        System.out.println("LanguageTest: " + (wrong == 0 ? "all rules hold" : wrong + " rules are broken"));
        if (wrong != 0) System.exit(1);
    }

    private static String signature(Method m) {
        StringBuilder text = new StringBuilder();
        text.append(m.getReturnType().getSimpleName()).append(' ').append(m.getName()).append('(');
        for (int i = 0; i < m.getParameterCount(); i++) {
            text.append(i > 0 ? "," : "").append(m.getParameterTypes()[i].getSimpleName());
        }
        return text.append(')').toString();
    }

    private static void face() {
        Class<?> c = ApologyBricks.class;
        hold(Modifier.isPublic(c.getModifiers()) && Modifier.isFinal(c.getModifiers()), "the class is public and final");
        Set<String> open = new TreeSet<>();
        for (Method m : c.getDeclaredMethods()) {
            if (Modifier.isPrivate(m.getModifiers())) continue;
            hold(Modifier.isPublic(m.getModifiers()) && !Modifier.isStatic(m.getModifiers()), m + " is neither public nor private");
            open.add(signature(m));
        }
        hold(open.equals(new TreeSet<>(Arrays.asList(FACE))), "the methods are " + open);
        Constructor<?>[] made = c.getDeclaredConstructors();
        hold(made.length == 1 && made[0].getParameterCount() == 0 && Modifier.isPublic(made[0].getModifiers()),
            "one public constructor");
        Set<String> constants = new HashSet<>();
        for (Field f : c.getDeclaredFields()) {
            if (Modifier.isPrivate(f.getModifiers())) continue;
            hold(f.toString().startsWith("public static final int "), f + " is no constant of the face");
            constants.add(f.getName());
        }
        hold(constants.equals(new HashSet<>(Arrays.asList("BAD", "STATE", "FULL", "NONE", "NO"))), "the constants are " + constants);
        hold(ApologyBricks.BAD == -1 && ApologyBricks.STATE == -2 && ApologyBricks.FULL == -3
            && ApologyBricks.NONE == -9 && ApologyBricks.NO == -1000000, "the constants' values");
    }

    private static void nested() {
        Set<String> open = new HashSet<>();
        for (String f : FACE) open.add(f.replaceAll(".* |\\(.*", ""));
        Class<?>[] inside = ApologyBricks.class.getDeclaredClasses();
        hold(inside.length <= 11, "at most some twelve classes");
        for (Class<?> c : inside) {
            int m = c.getModifiers();
            hold(Modifier.isStatic(m) && !Modifier.isPublic(m) && !Modifier.isProtected(m), c + " is static and not open");
            // So the constructor of the face can hand out nothing of the object that it makes.
            for (Constructor<?> made : c.getDeclaredConstructors()) {
                hold(made.getParameterCount() == 0, made + " is handed something");
            }
            for (Method method : c.getDeclaredMethods()) {
                hold(!open.contains(method.getName()), method + " bears a name of the face");
                hold(method.getParameterCount() <= 7, method + " takes more than seven");
            }
        }
        for (Method method : ApologyBricks.class.getDeclaredMethods()) {
            boolean ownName = !Modifier.isPrivate(method.getModifiers()) || !open.contains(method.getName());
            hold(ownName, method + " bears a name of the face");
        }
    }

    private static void fields(Class<?> c) {
        int own = 0;
        for (Field f : c.getDeclaredFields()) {
            Class<?> type = f.getType();
            Class<?> part = type.isArray() ? type.getComponentType() : type;
            boolean ours = part.getEnclosingClass() == ApologyBricks.class;
            if (Modifier.isStatic(f.getModifiers())) {
                hold(Modifier.isFinal(f.getModifiers()) && (type == int.class || type == long.class), f + " is no constant");
            } else {
                own++;
                hold(ours || FIELD_TYPES.contains(type.getSimpleName()), f + " is of a type that is ruled out");
            }
        }
        hold(own <= MOST_FIELDS, c + " has " + own + " fields");
    }

    /** How long methods are, and how deep their calls go (those of one name are taken together). */
    private static void methods() throws IOException {
        String[] lines = code().split("\n");
        Map<String, Set<String>> words = new TreeMap<>();
        for (int i = 0; i < lines.length; i++) {
            Matcher head = Pattern.compile("( +)(?:public|private) .*?(\\w+)\\([^)]*\\) \\{").matcher(lines[i]);
            if (!head.matches()) continue;
            int end = i + 1;
            while (!lines[end].equals(head.group(1) + "}")) end++;
            hold(end - i < MOST_LINES, head.group(2) + " has " + (end - i + 1) + " lines");
            Set<String> called = words.computeIfAbsent(head.group(2), name -> new TreeSet<>());
            String body = String.join("\n", Arrays.copyOfRange(lines, i + 1, end));
            Matcher call = Pattern.compile("(\\w+)\\(").matcher(body);
            while (call.find()) called.add(call.group(1));
        }
        hold(words.size() > FACE.length, "methods are found in the source");
        int deepest = 0;
        for (String name : words.keySet()) deepest = Math.max(deepest, depth(words, name, 0));
        hold(deepest <= MOST_DEEP, "calls go " + deepest + " deep");
    }

    private static int depth(Map<String, Set<String>> words, String name, int above) {
        int deepest = 1;
        if (above > 2 * MOST_DEEP) return deepest;
        for (String called : words.get(name)) {
            if (words.containsKey(called) && !called.equals(name)) {
                deepest = Math.max(deepest, 1 + depth(words, called, above + 1));
            }
        }
        return deepest;
    }

    private static String code() throws IOException {
        return Files.readString(Path.of(SOURCE)).replaceAll("(?s)/\\*.*?\\*/", "").replaceAll("//[^\n]*", "");
    }

    private static void words() throws IOException {
        String source = Files.readString(Path.of(SOURCE));
        String code = code();
        for (String w : RULED_OUT) {
            Matcher m = Pattern.compile(w).matcher(code);
            hold(!m.find(), "the source has what is ruled out: " + w);
        }
        for (int i = 0; i < source.length(); i++) {
            hold(source.charAt(i) < 128, "a sign beyond 127 at " + i);
        }
    }

    private static void objectsMade() {
        com.sun.management.ThreadMXBean bean = (com.sun.management.ThreadMXBean) ManagementFactory.getThreadMXBean();
        if (!bean.isThreadAllocatedMemorySupported()) return;
        ApologyBricks x = new ApologyBricks();
        long self = Thread.currentThread().getId();
        sweep(x);
        long before = bean.getThreadAllocatedBytes(self);
        for (int i = 0; i < 50; i++) sweep(x);
        long made = bean.getThreadAllocatedBytes(self) - before;
        // The measuring itself makes a little; 50 times all calls would show far above it.
        hold(made < 20000, "50 times all calls make " + made + " bytes of objects");
    }

    private static void sweep(ApologyBricks x) {
        String text = "w6 4;k0 1;j3;j9;s12;s7;b0 0 9;b1 0 9;b2 0 1;b0 1 9;b1 2 9;";
        for (int i = 0; i < text.length(); i++) x.type(text.charAt(i));
        x.chapter();
        x.clear();
        for (int i = -1; i < 7; i++) {
            x.prompts(i);
            x.reads(i);
            x.writes(i, 9);
            x.lays(i, i);
            x.now(i);
            x.wall(i);
            x.letters(i + 2);
            x.apology(i, -1);
            x.odds(i, 1);
            x.hears(i, 1);
            x.worths(i);
            x.ask();
            x.keep(i);
            x.mark(i, 0);
            x.turn(0, i);
            x.brick(i, 5);
            x.place(i, 0);
            x.kin(i);
            x.judge(i, 1);
            x.count(i);
        }
        x.falls(0);
        x.undo();
        x.back(0);
        x.forget();
        x.trace();
    }
}
