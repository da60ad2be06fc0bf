/** Promises 25 to 29, what the document says of KINDS, THE TRACE, IMAGES and what is read anew. */
final class KindBounds {
    private final Sheet sheet;

    KindBounds(Sheet sheet) {
        this.sheet = sheet;
    }

    void test() {
        kinds();
        marks();
        fontBelowNought();
        markBounds();
        traces();
        images();
        imagesOfTheirOwnPast();
        imagesKeepNothingElse();
        imageBounds();
        readAnew();
        plansReadAnew();
        counts();
        manyCalls();
    }

    private void kinds() {
        sheet.says("KINDS of BRICKS are over one another: 0 BRICK; 1 ARCH, 2 FONT, 5 CHAPEL (each under BRICK); 3 VAULT (under ARCH); 4 STEP (under FONT).");
        Desk d = sheet.told("b0 0 0;b2 5 30;");
        d.run("mark(0, 1)=30 mark(1, 1)=32 mark(2, 1)=30 mark(3, 1)=64 mark(4, 1)=31 mark(5, 1)=35");
        d.run("mark(0, 0)=0 mark(1, 0)=0 mark(2, 0)=0 mark(3, 0)=0 mark(4, 0)=0 mark(5, 0)=0");
        sheet.says("MARK of a BRICK as if of a KIND (numbers in brackets come to THE TRACE (0 at first; of all calls ever, together) as often as mark() asks that body; \"up\" is what the KIND above does, asked once)");
        long[] comes = {1, 11, 101, 1011, 10101, 100001};
        for (int kind = 0; kind < 6; kind++) {
            Desk e = sheet.told("b1 2 3;").run("trace()=0 mark(" + kind + ", 0) trace()=" + comes[kind]);
            e.run("mark(" + kind + ", 0) trace()=" + 2 * comes[kind] + " mark(0, 0) trace()=" + (2 * comes[kind] + 1));
        }
    }

    private void marks() {
        Desk d = sheet.told("w2 2;j5;b0 4 9;b2 3 7;b1 0 0;").allRead().run("lays(0, 0)=1");
        sheet.says("BRICK its WORTH (1).");
        d.run("mark(0, 0)=9 mark(0, 1)=7 mark(0, 2)=0 trace()=3");
        sheet.says("ARCH up, and its SHAPE (10).");
        d.run("mark(1, 0)=9 mark(1, 1)=9 mark(1, 2)=1 trace()=36");
        sheet.says("FONT up less how many are LAID (100).");
        d.run("mark(2, 0)=8 mark(2, 1)=6 mark(2, 2)=-1 trace()=339");
        sheet.says("VAULT up times 2 (1000).");
        d.run("mark(3, 0)=18 mark(3, 1)=18 mark(3, 2)=2 trace()=3372");
        sheet.says("STEP up, and its number (10000).");
        d.run("mark(4, 0)=8 mark(4, 1)=7 mark(4, 2)=1 trace()=33675");
        sheet.says("CHAPEL up, and its HOLDER (100000).");
        d.run("mark(5, 0)=13 mark(5, 1)=10 mark(5, 2)=0 trace()=333678");
        d.run("writes(2, 30)=0 mark(0, 2)=30 mark(3, 2)=62 undo() mark(0, 2)=0 undo() mark(2, 2)=0 trace()=334792");
    }

    private void fontBelowNought() {
        sheet.says("`NO = -1000000`: What none is, where a number may be below 0.");
        Desk d = sheet.told("w6 2;b0 0 0;b1 0 0;b2 0 0;b0 0 0;b1 0 0;b2 0 0;b2 0 0;b0 0 0;b1 0 0;b2 0 0;").allRead();
        for (int b = 0; b < 10; b++) {
            d.run("mark(2, 0)=" + -b + " mark(4, 9)=" + (9 - b) + " lays(" + b + ", " + b % 6 + ")=" + (b / 6 + 1));
        }
        d.run("mark(2, 0)=-10 mark(2, 9)=-10 mark(4, 0)=-10 mark(4, 9)=-1 mark(2, 10)=NO");
    }

    private void markBounds() {
        sheet.says("MARK. NO: BAD.");
        Desk d = sheet.told("b1 2 3;b1 2 3;").run("mark(-1, 0)=NO mark(6, 0)=NO mark(MIN, 0)=NO mark(MAX, 0)=NO mark(6, 2)=NO");
        for (int kind = 0; kind < 6; kind++) {
            d.run("mark(" + kind + ", -1)=NO mark(" + kind + ", 2)=NO mark(" + kind + ", MIN)=NO mark(" + kind + ", MAX)=NO");
        }
        d.run("trace()=0 mark(5, 1)=5 trace()=100001");
        sheet.desk().run("mark(0, 0)=NO mark(5, -1)=NO trace()=0");
    }

    private void traces() {
        sheet.says("THE TRACE.");
        Desk d = sheet.told("b1 2 3;").run("trace()=0 keep(0) prompts(2) mark(3, 0) trace()=1011 trace()=1011 undo() trace()=1011 back(0) trace()=1011");
        d.run("clear() forget() trace()=1011 chapter()=0 trace()=1011 mark(0, 0)=NO trace()=1011");
        d.types("b0 0 0;").run("chapter()=1 mark(4, 0)=0 trace()=11112").types("b").run("chapter()=-11 trace()=11112");
        Desk none = sheet.told("w1 1;j5;s5;b0 0 5;").run("brick(0, 2) judge(0, 1) prompts(0) reads(0) lays(0, 0) falls(0) now(5) wall(0)");
        none.run("letters(1) apology(1, 0) turn(0, 0) odds(1, 1) hears(0, 1) worths(0) ask() keep(0) back(0) count(0) trace()=0");
    }

    private Desk busy() {
        Desk d = sheet.told("w2 2;j5;b0 0 9;b2 0 9;b1 0 2;b1 1 9;").run("prompts(0)=3 reads(0)=2 reads(1)=2 reads(2)=3");
        return d.run("lays(0, 0)=1 keep(0)=1 count(6)=5");
    }

    private void images() {
        sheet.says("IMAGES 0, 1 keep NOW (what BRICKS are, WORTHS, what is LAID where, what may be UNDONE)");
        Desk d = busy().run("lays(1, 0)=2 writes(2, 8)=2 prompts(1)=1 keep(1)=2 back(0)=1");
        d.run("brick(0, 3)=4 brick(1, 3)=2 brick(2, 3)=3 brick(3, 3)=0 brick(2, 2)=2 place(0, 0)=0 place(0, 1)=NONE count(6)=5");
        d.run("undo()=4 brick(0, 3)=2 undo()=3 brick(2, 3)=1 undo()=2 undo()=1 undo()=0 now(0)=4 undo()=STATE");
        d.run("back(1)=2 brick(1, 3)=4 brick(2, 3)=1 brick(3, 3)=1 brick(2, 2)=8 place(0, 1)=1 count(6)=8 undo()=7 brick(3, 3)=0");
        d.run("undo()=6 brick(2, 2)=2 undo()=5 place(0, 1)=NONE back(0)=1 count(6)=5 back(1)=2 count(6)=8");
        // What is done when it is back leaves the image as it was.
        d.run("back(0)=1 falls(0)=0 lays(0, 0)=1 falls(0)=0 back(0)=1 count(6)=5 place(0, 0)=0 undo()=4 brick(0, 3)=2 back(0)=1 undo()=4");
        // An image is kept anew, and keeps ten that may be undone.
        d.times(12, "prompts(4)=0").run("keep(0)=0 count(6)=10").times(10, "undo()").run("undo()=STATE back(0)=0").times(10, "undo()").run("undo()=STATE");
        Desk where = sheet.told("w4 1;b0 0 0;").allRead().run("lays(0, 3)=1 keep(0)=1 falls(3) lays(0, 0)=1 keep(1)=1 back(0)=1 place(3, 0)=0 place(0, 0)=NONE");
        where.run("back(1)=1 place(0, 0)=0 place(3, 0)=NONE back(0)=1 undo() place(3, 0)=NONE brick(0, 3)=2");
        Desk before = sheet.told("b0 0 0;").run("keep(1)=0 prompts(0)=1 back(1)=0 brick(0, 3)=0 count(6)=0 undo()=STATE back(1)=0");
        before.run("prompts(0)=1 undo()=0 back(1)=0 undo()=STATE");
    }

    /** What was done otherwise since an image was kept is not what may be undone when it is back. */
    private void imagesOfTheirOwnPast() {
        sheet.says("what may be UNDONE");
        String text = "j30;b0 0 0;b0 1 0;";
        for (int image = 0; image < 2; image++) {
            Desk d = sheet.told(text).run("prompts(0)=1");
            for (int i = 1; i <= 6; i++) d.run("reads(0)=3 writes(0, " + i + ")=" + (i - 1));
            d.run("keep(" + image + ")=0").times(10, "undo()").run("prompts(1)=1");
            for (int i = 1; i <= 6; i++) d.run("reads(1)=3 writes(1, " + 2 * i + ")=" + (2 * i - 2));
            d.run("keep(" + (1 - image) + ")=0");
            ownPast(d.run("back(" + image + ")=0 count(6)=10"), 0, 1, 1, 0);
            ownPast(d.run("back(" + (1 - image) + ")=0 count(6)=10"), 1, 2, 0, 1);
            ownPast(d.run("back(" + image + ")=0 count(6)=10"), 0, 1, 1, 0);
        }
    }

    /** Of ten that may be undone all worths of a brick by steps; the other brick stays the same. */
    private void ownPast(Desk d, int brick, int step, int other, int otherWhat) {
        for (int i = 9; i >= 0; i--) {
            d.run("undo()=" + i + " brick(" + brick + ", 2)=" + (1 + i / 2) * step + " brick(" + brick + ", 3)=" + (i % 2 == 0 ? 1 : 3));
            d.run("brick(" + other + ", 2)=" + otherWhat + " brick(" + other + ", 3)=" + otherWhat);
        }
        d.run("undo()=STATE");
    }

    private void imagesKeepNothingElse() {
        sheet.says("; nothing else.");
        Desk d = busy().run("hears(0, 1)=1").types("j").run("mark(0, 0)=9 back(0)=1 count(5)=1 worths(0)=26 count(7)=1 trace()=1");
        d.run("forget()=1 clear()=1 back(0)=1 count(5)=0 count(7)=0 trace()=1 count(0)=2 count(1)=2 count(2)=4 count(3)=1");
        busy().run("keep(1)=1 falls(0)=0 back(0)=1 keep(1)=1 falls(0)=0 back(1)=1 back(0)=1");
    }

    private void imageBounds() {
        sheet.says("An IMAGE is kept: how many are LAID. BAD.");
        sheet.desk().run("keep(-1)=BAD keep(2)=BAD keep(MIN)=BAD keep(MAX)=BAD keep(0)=0 keep(1)=0 keep(0)=0");
        Desk ten = sheet.told("w6 2;b0 0 0;b1 0 0;b2 0 0;b0 0 0;b1 0 0;b2 0 0;b2 0 0;b0 0 0;b1 0 0;b2 0 0;").allRead();
        for (int b = 0; b < 10; b++) ten.run("keep(1)=" + b + " lays(" + b + ", " + b % 6 + ") keep(0)=" + (b + 1) + " back(1)=" + b + " back(0)=" + (b + 1));
        sheet.says("All of that becomes as an IMAGE has it: how many are LAID. BAD; STATE: none was kept.");
        ten.run("falls(0)=6 back(0)=10 place(0, 1)=6 back(1)=9 now(4)=9");
        sheet.desk().run("back(0)=STATE back(1)=STATE back(-1)=BAD back(2)=BAD back(MIN)=BAD back(MAX)=BAD");
        sheet.desk().run("keep(0)=0 back(1)=STATE back(0)=0 back(2)=BAD");
        sheet.desk().run("keep(1)=0 back(0)=STATE back(1)=0 back(-1)=BAD");
        busy().run("back(1)=STATE now(4)=1 count(6)=5 keep(2)=BAD back(0)=1");
    }

    private void readAnew() {
        sheet.says("(Read anew: as told (what is not told as at first), nothing HEARD or to be UNDONE, IMAGES are gone; THE TRACE stays.)");
        String[] texts = {"", "b0 0 5;", "w2 2;j5;b0 0 9;b2 0 9;b1 0 2;b1 1 9;"};
        int[] bricks = {0, 1, 4};
        int[] items = {0, 1, 6};
        for (int i = 0; i < texts.length; i++) {
            Desk d = sheet.told("w6 4;k1 2;j5;s3;b0 0 2;b1 0 9;").run("prompts(0)=2 reads(0)=3 writes(0, 30)=2 reads(0)=2 lays(0, 0)=1 reads(1)=2");
            d.run("hears(0, 1)=1 keep(0)=1 keep(1)=1 mark(5, 0)=30").types(texts[i]).run("chapter()=" + items[i]);
            d.run("count(0)=" + (i == 2 ? 2 : 4) + " count(1)=" + (i == 2 ? 2 : 3) + " count(2)=" + bricks[i] + " count(3)=" + (i == 2 ? 1 : 0));
            d.run("count(4)=0 count(5)=0 count(6)=0 count(7)=0 kin(1)=0 kin(2)=0 now(0)=" + bricks[i] + " now(4)=0 place(0, 0)=NONE");
            d.run("undo()=STATE back(0)=STATE back(1)=STATE trace()=100001 worths(0)=31 apology(-6, -1)=NONE forget()=0");
            if (i > 0) d.run("brick(0, 2)=" + (i == 1 ? 5 : 9) + " brick(0, 3)=0 brick(0, 4)=NONE brick(0, 5)=" + (i == 1 ? 9 : 1));
        }
    }

    /** Nothing of a greater wall, or of more bricks, is left in the plans of a lesser one. */
    private void plansReadAnew() {
        sheet.says("as told (what is not told as at first)");
        String great = "w6 4;j0;s10;s11;" + "b0 0 0;b1 0 0;b2 0 0;b0 0 0;b1 0 0;b2 0 0;b0 0 0;b1 0 0;b2 0 0;b0 0 0;";
        for (int columns = 1; columns <= 6; columns++) {
            Desk d = sheet.told(great).allRead().run("now(5)=10 wall(0)=4 letters(10)=0 apology(3, -1)=2 lays(0, 0)=1");
            int most = Math.min(columns, 3);
            d.told("w" + columns + " 1;b0 0 0;b1 1 0;b2 2 0;").run("now(5)=0 letters(" + most + ")=" + ((1 << most) - 1));
            d.run("letters(" + (most + 1) + ")=NONE apology(3, -1)=NONE").allRead().run("now(5)=" + most + " letters(" + most + ")=0");
            for (int x = 0; x < columns; x++) d.run("wall(" + x + ")=" + (x < 3 ? 1 : 0));
            d.run("wall(" + columns + ")=BAD lays(0, 0)=1 odds(10, 0)=0 odds(10, 1)=1000000 mark(2, 1)=-1");
        }
    }

    private void counts() {
        sheet.says("0 COLUMNS, 1 COURSES, 2 BRICKS, 3 JUDGES, 4 SORTS, 5 HEARD, 6 how many may be UNDONE, 7 bytes of THE TEXT. BAD.");
        Desk d = sheet.told("w5 2;j1;j2;s1;s2;s3;b0 0 0;b0 0 0;b0 0 0;b0 0 0;").run("hears(0, 1) prompts(1) prompts(2)").types("abcdefg");
        d.run("count(0)=5 count(1)=2 count(2)=4 count(3)=2 count(4)=3 count(5)=1 count(6)=2 count(7)=7");
        d.run("count(-1)=BAD count(8)=BAD count(MIN)=BAD count(MAX)=BAD");
        Desk full = sheet.told("w6 4;j1;j2;j3;s1;s2;s3;s4;s5;" + "b0 0 0;".repeat(10)).times(5, "hears(0, 1)").times(11, "prompts(1)").types(" ".repeat(121));
        full.run("count(0)=6 count(1)=4 count(2)=10 count(3)=3 count(4)=5 count(5)=4 count(6)=10 count(7)=120");
        sheet.desk().run("count(0)=4 count(1)=3 count(2)=0 count(3)=0 count(4)=0 count(5)=0 count(6)=0 count(7)=0 count(8)=BAD count(-1)=BAD");
    }

    /** The bounds hold to the last of 512 calls. */
    private void manyCalls() {
        sheet.says("An object is used for at most 512 calls after it has been made; what later calls answer is free.");
        sheet.told("b2 5 30;").times(501, "mark(5, 0)=35").run("mark(3, 0)=64 trace()=50101512");
        sheet.desk().times(510, "prompts(5)=0").run("count(6)=10 undo()=9");
        sheet.desk().times(510, "type(106)").run("count(7)=120 chapter()=-10");
        sheet.told("j5;").times(504, "hears(0, 1)").run("count(5)=4 worths(0)=26 hears(0, 1)=FULL forget()=4");
        sheet.desk().times(511, "undo()=STATE").run("count(6)=0");
        sheet.desk().times(256, "keep(1)=0 back(1)=0");
        sheet.desk().times(256, "prompts(0)=0 undo()=0");
        sheet.told("w1 1;b0 0 0;").run("prompts(0)=1 reads(0)=2").times(247, "lays(0, 0)=1 falls(0)=0").run("count(6)=10 undo()=9");
        sheet.told("j9;b0 0 0;").run("prompts(0)=1").times(248, "reads(0)=3 writes(0, 0)=0").run("count(6)=10 undo()=9 brick(0, 3)=3");
        Desk texts = sheet.desk();
        for (int i = 0; i < 102; i++) texts.types("j7;").run("chapter()=1 count(3)=1");
        texts.run("judge(0, 0)=7 count(7)=0");
    }
}
