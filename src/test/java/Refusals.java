import java.util.ArrayList;
import java.util.List;
import java.util.function.Supplier;

/** Which refusal comes first, and that a refused call, or one that only tells, changes nothing. */
final class Refusals {
    private static final String[] LATER = {
        "", "undo()", "undo() undo()", "undo() undo() undo()", "undo() undo() undo() undo() undo()",
        "undo() undo() undo() undo() undo() undo() undo() undo() undo() undo() undo()",
        "back(0)", "back(0) undo()", "back(0) undo() undo() undo()", "back(1)", "back(1) undo() undo()",
        "chapter()", "clear() type(59)", "clear() chapter()", "forget()", "hears(0, 0)", "prompts(3) prompts(4)"};

    private final Sheet sheet;

    Refusals(Sheet sheet) {
        this.sheet = sheet;
    }

    void test() {
        badComesFirst();
        stateComesSecond();
        fullComesLast();
        nothingChanges(this::newOne, NEW_REFUSES);
        nothingChanges(this::busy, BUSY_REFUSES);
        nothingChanges(this::brimful, BRIMFUL_REFUSES);
        faultChangesNothing();
        sheet.says("(Nothing is changed.)");
        onlyTold(this::newOne);
        onlyTold(this::busy);
        onlyTold(this::brimful);
    }

    private Desk newOne() {
        return sheet.desk();
    }

    /** 0 and 1 are laid in column 0, 2 refused, 3 and 5 come, 4 held, the others away. */
    private Desk busy() {
        Desk d = sheet.told("w6 4;k0 1;j5;j9;j20;s12;s7;s18;b0 0 9;b2 0 9;b1 1 4;b1 1 8;b0 2 9;b1 2 9;b2 3 9;b0 4 9;b1 5 9;b2 5 25;");
        d.run("prompts(0)=4 reads(0)=2 keep(0)=0 reads(1)=2 lays(0, 0)=1 reads(2)=3 reads(3)=3 keep(1)=1");
        d.run("lays(1, 0)=2 writes(3, 30)=8 prompts(2)=2 reads(4)=2 count(6)=10 hears(0, 1)=1 mark(5, 9)=30");
        return d.types("j7;");
    }

    /** The wall, THE TEXT and what was HEARD are full; image 1 was not kept. */
    private Desk brimful() {
        Desk d = sheet.told("w1 1;j0;b0 0 0;b0 0 0;").run("prompts(0)=2 reads(0)=2 keep(0)=0 reads(1)=2 lays(0, 0)=1");
        return d.times(4, "hears(0, 1)").types("j" + " ".repeat(119));
    }

    private static final String[] NEW_REFUSES = {
        "type(-1)=BAD", "type(256)=BAD", "type(MIN)=BAD", "type(MAX)=BAD", "brick(0, 0)=BAD", "place(4, 0)=BAD", "place(0, 3)=BAD",
        "kin(6)=BAD", "kin(-1)=BAD", "judge(0, 0)=BAD", "prompts(-1)=BAD", "prompts(6)=BAD", "prompts(MIN)=BAD", "prompts(MAX)=BAD",
        "reads(0)=BAD", "reads(-1)=BAD", "writes(0, 0)=BAD", "writes(0, 31)=BAD", "lays(0, 0)=BAD", "lays(0, 4)=BAD", "falls(4)=BAD",
        "falls(-1)=BAD", "falls(0)=STATE", "falls(3)=STATE", "undo()=STATE", "now(6)=BAD", "wall(4)=BAD", "letters(0)=BAD",
        "letters(25)=BAD", "apology(31, -1)=BAD", "apology(0, 5)=BAD", "turn(0, 0)=BAD", "odds(11, 0)=BAD", "odds(0, 11)=BAD",
        "hears(0, 0)=BAD", "hears(0, 2)=BAD", "worths(3)=BAD", "mark(0, 0)=NO", "mark(6, 0)=NO", "keep(2)=BAD", "keep(-1)=BAD",
        "back(0)=STATE", "back(1)=STATE", "back(2)=BAD", "back(-1)=BAD", "count(8)=BAD"};

    private static final String[] BUSY_REFUSES = {
        "type(-1)=BAD", "type(256)=BAD", "type(MIN)=BAD", "type(MAX)=BAD",
        "brick(-1, 3)=BAD", "brick(10, 3)=BAD", "brick(0, 6)=BAD", "place(6, 0)=BAD", "place(0, 4)=BAD", "kin(6)=BAD",
        "judge(3, 0)=BAD", "judge(0, 2)=BAD", "prompts(-1)=BAD", "prompts(6)=BAD", "prompts(MIN)=BAD", "prompts(MAX)=BAD",
        "reads(-1)=BAD", "reads(10)=BAD", "reads(MIN)=BAD", "reads(MAX)=BAD",
        "reads(6)=STATE", "reads(4)=STATE", "reads(2)=STATE", "reads(0)=STATE",
        "writes(-1, 5)=BAD", "writes(10, 5)=BAD", "writes(2, -1)=BAD", "writes(2, 31)=BAD", "writes(2, MIN)=BAD", "writes(2, MAX)=BAD",
        "writes(0, 31)=BAD", "writes(6, -1)=BAD", "writes(10, 31)=BAD",
        "writes(6, 5)=STATE", "writes(5, 5)=STATE", "writes(4, 5)=STATE", "writes(0, 5)=STATE",
        "lays(-1, 3)=BAD", "lays(10, 3)=BAD", "lays(4, -1)=BAD", "lays(4, 6)=BAD", "lays(4, MAX)=BAD", "lays(6, 6)=BAD", "lays(0, -1)=BAD",
        "lays(7, 3)=STATE", "lays(5, 1)=STATE", "lays(2, 1)=STATE", "lays(0, 3)=STATE", "lays(0, 0)=STATE", "lays(4, 0)=STATE", "lays(4, 1)=STATE",
        "falls(-1)=BAD", "falls(6)=BAD", "falls(MIN)=BAD", "falls(1)=STATE", "falls(5)=STATE",
        "now(-1)=BAD", "now(6)=BAD", "wall(-1)=BAD", "wall(6)=BAD", "letters(0)=BAD", "letters(25)=BAD",
        "apology(-31, 0)=BAD", "apology(31, 0)=BAD", "apology(3, -2)=BAD", "apology(3, 5)=BAD",
        "turn(3, 0)=BAD", "turn(0, 10)=BAD", "odds(-1, 0)=BAD", "odds(11, 0)=BAD", "odds(0, -1)=BAD", "odds(0, 11)=BAD",
        "hears(-1, 1)=BAD", "hears(3, 1)=BAD", "hears(0, -1)=BAD", "hears(0, 2)=BAD", "worths(-1)=BAD", "worths(3)=BAD",
        "mark(-1, 0)=NO", "mark(6, 0)=NO", "mark(0, -1)=NO", "mark(5, 10)=NO", "mark(3, MAX)=NO",
        "keep(-1)=BAD", "keep(2)=BAD", "keep(MIN)=BAD", "back(-1)=BAD", "back(2)=BAD", "back(MAX)=BAD", "count(-1)=BAD", "count(8)=BAD"};

    private static final String[] BRIMFUL_REFUSES = {
        "type(32)=FULL", "type(59)=FULL", "type(-1)=BAD", "type(256)=BAD", "chapter()=-130",
        "hears(0, 1)=FULL", "hears(0, 0)=FULL", "hears(1, 0)=BAD", "hears(0, 2)=BAD",
        "lays(1, 0)=STATE", "lays(0, 0)=STATE", "lays(1, 1)=BAD", "reads(0)=STATE", "writes(1, 0)=STATE", "falls(1)=BAD", "judge(1, 0)=BAD", "back(1)=STATE"};

    private void badComesFirst() {
        sheet.says("Refused, and nothing changes, the first of these: BAD (a number is not as told, or there is no such thing)");
        busy().run("reads(-1)=BAD writes(6, 31)=BAD writes(5, -1)=BAD writes(4, 31)=BAD writes(0, MAX)=BAD writes(10, 0)=BAD");
        busy().run("lays(6, 6)=BAD lays(5, -1)=BAD lays(2, 6)=BAD lays(0, 6)=BAD lays(10, 0)=BAD lays(4, 6)=BAD falls(6)=BAD");
        sheet.desk().run("back(2)=BAD back(-1)=BAD falls(4)=BAD reads(0)=BAD writes(0, 0)=BAD lays(0, 0)=BAD hears(0, 0)=BAD");
        brimful().run("type(-1)=BAD type(256)=BAD hears(1, 0)=BAD hears(-1, 1)=BAD hears(0, 2)=BAD hears(0, -1)=BAD lays(1, 1)=BAD lays(2, 0)=BAD");
    }

    private void stateComesSecond() {
        sheet.says(", STATE (as told)");
        busy().run("reads(6)=STATE writes(6, 30)=STATE lays(6, 2)=STATE lays(4, 1)=STATE falls(1)=STATE");
        sheet.desk().run("undo()=STATE back(0)=STATE back(1)=STATE falls(0)=STATE");
    }

    private void fullComesLast() {
        sheet.says(", FULL.");
        brimful().run("type(0)=FULL type(255)=FULL hears(0, 1)=FULL hears(0, 0)=FULL clear()=120 type(0)=1 forget()=4 hears(0, 0)=1");
    }

    /** All that the object tells of itself. */
    private List<Long> portrait(Desk d) {
        List<Long> all = new ArrayList<>();
        for (int i = 0; i < 8; i++) all.add(d.call("count", i));
        long columns = all.get(0), courses = all.get(1), bricks = all.get(2), judges = all.get(3);
        for (int b = 0; b < bricks; b++) for (int what = 0; what < 6; what++) all.add(d.call("brick", b, what));
        for (int x = 0; x < columns; x++) {
            all.add(d.call("wall", x));
            for (int y = 0; y < courses; y++) all.add(d.call("place", x, y));
        }
        for (int h = 0; h < 6; h++) all.add(d.call("kin", h));
        for (int j = 0; j < judges; j++) for (int what = 0; what < 2; what++) all.add(d.call("judge", j, what));
        for (int i = 0; i < 6; i++) all.add(d.call("now", i));
        for (int n : new int[] {1, 2, 3, 5, 8}) all.add(d.call("letters", n));
        for (int n : new int[] {-30, -2, 0, 1, 3, 9, 30}) all.add(d.call("apology", n, -1));
        for (int i = 0; i < 3; i++) all.add(d.call("worths", i));
        all.add(d.call("ask"));
        all.add(d.call("odds", 3, 0));
        all.add(d.call("trace"));
        return all;
    }

    private void nothingChanges(Supplier<Desk> made, String[] refused) {
        for (String later : LATER) {
            List<Long> due = portrait(made.get().run(later));
            for (String row : refused) {
                Desk d = made.get().run(row).run(later);
                if (!portrait(d).equals(due)) sheet.wrong(row + " has changed something: " + d.lately());
            }
        }
    }

    private void faultChangesNothing() {
        sheet.says("-10 less FAULT: nothing changes (THE TEXT, too, stays).");
        String[] texts = {"w1 1;k2 3;j1;s1;b2 2 2;b", "b0 0 1;!", "w2 2", "j1;j1;j1;j1;", ";", "k0 5;k5 5;"};
        int[] faults = {-34, -17, -14, -19, -10, -18};
        for (int i = 0; i < texts.length; i++) {
            String text = texts[i];
            nothingChanges(() -> busy().run("clear()=3").types(text), new String[] {"chapter()=" + faults[i]});
        }
    }

    /** Each call that only tells leaves all as it was. */
    private void onlyTold(Supplier<Desk> made) {
        nothingChanges(made, new String[] {"now(5)", "wall(0) wall(3)", "letters(1) letters(4) letters(24)",
            "apology(12, -1) apology(3, 0) apology(-30, 4)", "turn(0, 0) turn(2, 9)", "odds(3, 1) odds(10, 0)",
            "worths(0) worths(1) worths(2)", "ask()", "brick(0, 5) brick(4, 5)", "place(0, 0)", "kin(0)", "judge(0, 1)",
            "count(6)", "trace()", "now(0) now(4)"});
    }
}
