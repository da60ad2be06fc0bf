/** Promises 5 to 14, and what the document says of what is done and UNDONE. */
final class DeedBounds {
    private final Sheet sheet;

    DeedBounds(Sheet sheet) {
        this.sheet = sheet;
    }

    void test() {
        whatABrickIs();
        ofABrick();
        fits();
        places();
        kin();
        ears();
        prompted();
        read();
        verdicts();
        written();
        laid();
        laidByWhatItIs();
        fallen();
        undoneOneByOne();
        tenAreKnown();
        undoneWhereItWas();
    }

    /** Of one judge with EAR 10: brick 0 away, 1 come, 2 held, 3 refused, 4 laid in column 0. */
    private Desk oneOfEach() {
        Desk d = sheet.told("w3 3;j10;b0 0 12;b0 1 12;b0 1 12;b0 1 9;b0 1 12;");
        return d.run("prompts(1)=4 reads(2)=2 reads(3)=3 reads(4)=2 lays(4, 0)=1");
    }

    private void whatABrickIs() {
        sheet.says("A BRICK is AWAY (0) at first, COME (1), HELD (2), REFUSED (3) or LAID (4); no COLUMN has any.");
        Desk first = sheet.told("w6 4;b0 0 0;b1 1 30;b2 5 9;").run("brick(0, 3)=0 brick(1, 3)=0 brick(2, 3)=0 now(0)=3 now(4)=0");
        for (int x = 0; x < 6; x++) {
            for (int y = 0; y < 4; y++) first.run("place(" + x + ", " + y + ")=NONE");
            first.run("falls(" + x + ")=STATE wall(" + x + ")=0");
        }
        oneOfEach().run("brick(0, 3)=0 brick(1, 3)=1 brick(2, 3)=2 brick(3, 3)=3 brick(4, 3)=4");
        oneOfEach().run("now(0)=1 now(1)=1 now(2)=1 now(3)=1 now(4)=1");
    }

    private void ofABrick() {
        sheet.says("Of a BRICK: 0 SHAPE, 1 HOLDER, 2 WORTH, 3 what it is (0 .. 4), 4 the COLUMN where it is LAID (NONE), 5 FITS (bits). BAD.");
        Desk d = sheet.told("w6 4;b0 0 0;b1 3 17;b2 5 30;");
        d.run("brick(0, 0)=0 brick(0, 1)=0 brick(0, 2)=0 brick(0, 3)=0 brick(0, 4)=NONE brick(0, 5)=9");
        d.run("brick(1, 0)=1 brick(1, 1)=3 brick(1, 2)=17 brick(1, 3)=0 brick(1, 4)=NONE brick(1, 5)=18");
        d.run("brick(2, 0)=2 brick(2, 1)=5 brick(2, 2)=30 brick(2, 3)=0 brick(2, 4)=NONE brick(2, 5)=36");
        for (int what = 0; what <= 5; what++) {
            d.run("brick(-1, " + what + ")=BAD brick(3, " + what + ")=BAD brick(MIN, " + what + ")=BAD brick(MAX, " + what + ")=BAD");
        }
        d.run("brick(0, -1)=BAD brick(0, 6)=BAD brick(0, MIN)=BAD brick(0, MAX)=BAD brick(3, 6)=BAD brick(-1, -1)=BAD");
        oneOfEach().run("brick(0, 4)=NONE brick(1, 4)=NONE brick(2, 4)=NONE brick(3, 4)=NONE brick(4, 4)=0");
        Desk far = sheet.told("w6 1;b2 0 0;").allRead().run("lays(0, 5)=1 brick(0, 4)=5 falls(5)=0 brick(0, 4)=NONE lays(0, 2)=1");
        far.run("brick(0, 4)=2 undo() brick(0, 4)=NONE undo() brick(0, 4)=5 undo() brick(0, 4)=NONE");
    }

    private void fits() {
        sheet.says("FITS of a BRICK: COLUMNS (bits) on top of which its SHAPE is (LAID ones: none).");
        for (int columns = 1; columns <= 6; columns++) {
            Desk d = sheet.told("w" + columns + " 1;b0 0 0;b1 0 0;b2 0 0;");
            int all = (1 << columns) - 1;
            d.run("brick(0, 5)=" + (9 & all) + " brick(1, 5)=" + (18 & all) + " brick(2, 5)=" + (36 & all));
        }
        oneOfEach().run("brick(0, 5)=0 brick(1, 5)=0 brick(2, 5)=0 brick(3, 5)=0 brick(4, 5)=0");
        Desk d = sheet.told("w6 2;b0 0 0;b2 0 0;b0 1 0;b2 1 0;b1 1 0;").run("prompts(0)=2 reads(0)=2 reads(1)=2");
        d.run("brick(2, 5)=9 brick(3, 5)=36 brick(4, 5)=18 brick(0, 5)=9 brick(1, 5)=36 lays(0, 0)=1");
        d.run("brick(0, 5)=0 brick(1, 5)=37 brick(2, 5)=8 brick(3, 5)=37 brick(4, 5)=18 lays(1, 0)=2");
        d.run("brick(0, 5)=0 brick(1, 5)=0 brick(2, 5)=8 brick(3, 5)=36 brick(4, 5)=18 falls(0)=1 brick(1, 5)=37 brick(0, 5)=0");
        sheet.told("w1 1;b0 0 0;b0 0 0;").allRead().run("brick(1, 5)=1 lays(0, 0)=1 brick(1, 5)=0 falls(0)=0 brick(1, 5)=1 brick(0, 5)=1");
    }

    private void places() {
        sheet.says("The BRICK in a COLUMN, a COURSE; NONE. BAD.");
        Desk d = sheet.told("w6 4;b2 0 0;b1 0 0;b0 0 0;b2 0 0;b0 0 0;").allRead();
        d.run("lays(0, 5)=1 lays(1, 5)=2 lays(2, 5)=3 lays(3, 5)=4 lays(4, 0)=1");
        d.run("place(5, 0)=0 place(5, 1)=1 place(5, 2)=2 place(5, 3)=3 place(0, 0)=4 place(0, 1)=NONE place(4, 3)=NONE");
        d.run("place(6, 0)=BAD place(-1, 0)=BAD place(0, 4)=BAD place(0, -1)=BAD place(6, 4)=BAD place(5, 4)=BAD place(5, -1)=BAD");
        d.run("place(MIN, 0)=BAD place(MAX, 0)=BAD place(0, MIN)=BAD place(0, MAX)=BAD");
        d.run("falls(5)=3 place(5, 3)=NONE place(5, 2)=2 undo() place(5, 3)=3");
    }

    private void kin() {
        sheet.says("KIN of a HOLDER (bits). BAD.");
        Desk d = sheet.told("k0 5;k1 0;k3 5;").run("kin(0)=34 kin(1)=1 kin(2)=0 kin(3)=32 kin(4)=0 kin(5)=9");
        d.run("kin(-1)=BAD kin(6)=BAD kin(MIN)=BAD kin(MAX)=BAD");
        StringBuilder all = new StringBuilder();
        for (int a = 0; a < 6; a++) for (int b = a + 1; b < 6; b++) all.append("k").append(a).append(' ').append(b).append(';');
        Desk clan = sheet.told(all.toString());
        for (int h = 0; h < 6; h++) clan.run("kin(" + h + ")=" + (63 - (1 << h)));
    }

    private void ears() {
        sheet.says("EAR of a JUDGE (what = 0), for which BRICKS he would be (1, bits). BAD.");
        Desk d = sheet.told("j0;j15;j30;b0 0 0;b0 0 14;b0 0 15;b0 0 29;b0 0 30;");
        d.run("judge(0, 0)=0 judge(0, 1)=31 judge(1, 0)=15 judge(1, 1)=28 judge(2, 0)=30 judge(2, 1)=16");
        d.run("judge(-1, 0)=BAD judge(3, 0)=BAD judge(MIN, 1)=BAD judge(MAX, 1)=BAD judge(0, -1)=BAD judge(0, 2)=BAD");
        d.run("judge(0, MIN)=BAD judge(0, MAX)=BAD judge(3, 2)=BAD prompts(0)=5 judge(1, 1)=28 reads(1)=3 judge(1, 1)=28");
        d.run("writes(1, 15)=14 judge(1, 1)=30 undo() judge(1, 1)=28");
        sheet.told("j5;").run("judge(0, 1)=0 judge(1, 0)=BAD");
        String ten = "b0 0 9;".repeat(10);
        sheet.told("j9;j10;" + ten).run("judge(0, 1)=1023 judge(1, 1)=0 judge(2, 1)=BAD");
        sheet.told("b0 0 9;").run("judge(0, 0)=BAD judge(0, 1)=BAD");
    }

    private void prompted() {
        sheet.says("PROMPTED: a HOLDER: what he and his KIN have that is AWAY has COME.");
        String six = "b0 0 5;b0 1 5;b0 2 5;b0 3 5;b0 4 5;b0 5 5;";
        for (int h = 0; h < 6; h++) {
            Desk d = sheet.told(six).run("prompts(" + h + ")=1");
            for (int b = 0; b < 6; b++) d.run("brick(" + b + ", 3)=" + (b == h ? 1 : 0));
        }
        String chain = "k0 1;k1 2;k2 3;k3 4;k4 5;";
        for (int h = 0; h < 6; h++) {
            Desk d = sheet.told(chain + six).run("prompts(" + h + ")=" + (h == 0 || h == 5 ? 2 : 3));
            for (int b = 0; b < 6; b++) d.run("brick(" + b + ", 3)=" + (Math.abs(b - h) <= 1 ? 1 : 0));
        }
        oneOfEach().run("prompts(1)=0 brick(0, 3)=0 brick(1, 3)=1 brick(2, 3)=2 brick(3, 3)=3 brick(4, 3)=4 place(0, 0)=4");
        oneOfEach().run("prompts(0)=1 brick(0, 3)=1 brick(1, 3)=1 brick(2, 3)=2 brick(3, 3)=3 brick(4, 3)=4");
        sheet.says("PROMPTED: how many have COME by it. BAD.");
        sheet.told("b0 0 5;".repeat(10)).run("prompts(1)=0 prompts(0)=10 prompts(0)=0 now(1)=10");
        sheet.told("k0 5;b0 0 5;b0 5 5;").run("prompts(5)=2 prompts(0)=0");
        sheet.told(six).run("prompts(-1)=BAD prompts(6)=BAD prompts(MIN)=BAD prompts(MAX)=BAD count(6)=0 now(0)=6");
        sheet.desk().run("prompts(0)=0 prompts(5)=0 count(6)=2");
    }

    private void read() {
        sheet.says("READ: a BRICK that has COME: each JUDGE whose EAR is WORTH or less is for it");
        for (int ear = 0; ear <= 30; ear++) {
            for (int worth = Math.max(0, ear - 1); worth <= Math.min(30, ear + 1); worth++) {
                Desk d = sheet.told("j" + ear + ";b0 0 " + worth + ";");
                d.run("judge(0, 1)=" + (ear <= worth ? 1 : 0) + " prompts(0)=1 reads(0)=" + (ear <= worth ? 2 : 3));
            }
        }
        sheet.says("READ: what it is then. BAD; STATE: it has not COME.");
        Desk d = oneOfEach().run("reads(0)=STATE reads(2)=STATE reads(3)=STATE reads(4)=STATE count(6)=5 reads(1)=2 count(6)=6");
        d.run("reads(1)=STATE reads(-1)=BAD reads(5)=BAD reads(MIN)=BAD reads(MAX)=BAD brick(1, 3)=2 count(6)=6");
        sheet.desk().run("reads(0)=BAD reads(-1)=BAD");
        oneOfEach().run("falls(0)=4 reads(4)=STATE");
        oneOfEach().run("writes(3, 9)=9 reads(3)=3 writes(3, 10)=9 reads(3)=2");
    }

    private void verdicts() {
        sheet.says("if more are for it than are not, it is HELD (without JUDGES, too), else REFUSED.");
        // By judges and how many of them are for it.
        int[][] due = {{2}, {3, 2}, {3, 3, 2}, {3, 3, 2, 2}};
        for (int judges = 0; judges <= 3; judges++) {
            for (int holding = 0; holding <= judges; holding++) {
                String text = "j15;".repeat(holding) + "j16;".repeat(judges - holding);
                sheet.told(text + "b0 0 15;").run("prompts(0)=1 reads(0)=" + due[judges][holding] + " brick(0, 3)=" + due[judges][holding]);
                String other = "j16;".repeat(judges - holding) + "j15;".repeat(holding);
                sheet.told(other + "b0 0 15;").run("prompts(0)=1 reads(0)=" + due[judges][holding]);
            }
        }
        sheet.told("b0 0 0;").run("prompts(0)=1 reads(0)=2");
    }

    private void written() {
        sheet.says("WRITTEN anew: the letter of a REFUSED one has another WORTH (0 .. 30; it may be the same): it has COME then.");
        for (int worth = 0; worth <= 30; worth++) {
            Desk d = sheet.told("j20;b0 0 7;").run("prompts(0)=1 reads(0)=3 writes(0, " + worth + ")=7 brick(0, 2)=" + worth);
            d.run("brick(0, 3)=1 reads(0)=" + (worth >= 20 ? 2 : 3));
        }
        sheet.says("WRITTEN anew: WORTH till then. BAD; STATE: it is not REFUSED.");
        Desk d = oneOfEach().run("writes(0, 5)=STATE writes(1, 5)=STATE writes(2, 5)=STATE writes(4, 5)=STATE");
        d.run("writes(3, -1)=BAD writes(3, 31)=BAD writes(3, MIN)=BAD writes(3, MAX)=BAD writes(-1, 5)=BAD writes(5, 5)=BAD");
        d.run("writes(MIN, 5)=BAD writes(MAX, 5)=BAD writes(0, 31)=BAD writes(2, -1)=BAD writes(5, 31)=BAD");
        d.run("count(6)=5 brick(3, 2)=9 brick(3, 3)=3 writes(3, 9)=9 writes(3, 9)=STATE reads(3)=3 writes(3, 0)=9");
        d.run("reads(3)=3 writes(3, 30)=0 brick(3, 2)=30 reads(3)=2 writes(3, 5)=STATE");
    }

    private void laid() {
        sheet.says("LAID: a HELD one on top of a COLUMN that has fewer than COURSES, if its SHAPE is that of the place.");
        for (int courses = 1; courses <= 4; courses++) {
            Desk d = sheet.told("w1 " + courses + ";b0 0 0;b2 0 0;b1 0 0;b0 0 0;b2 0 0;").allRead();
            for (int y = 0; y < courses; y++) {
                for (int b = y + 1; b < 5; b++) {
                    if (b != y + 3) d.run("lays(" + b + ", 0)=STATE");
                }
                d.run("lays(" + y + ", 0)=" + (y + 1) + " place(0, " + y + ")=" + y);
            }
            for (int b = 0; b < 5; b++) d.run("lays(" + b + ", 0)=STATE brick(" + b + ", 5)=0");
            d.run("now(4)=" + courses + " falls(0)=" + (courses - 1) + " lays(" + (courses - 1) + ", 0)=" + courses);
        }
        sheet.told("w4 1;b0 0 0;b0 0 0;").allRead().run("lays(0, 1)=STATE lays(0, 2)=STATE lays(0, 3)=1 lays(1, 3)=STATE lays(1, 0)=1");
    }

    private void laidByWhatItIs() {
        sheet.says("LAID: how high the COLUMN is. BAD; STATE: it is not HELD, it can't be there.");
        Desk d = sheet.told("w2 2;j10;b0 0 12;b0 1 12;b0 1 12;b0 1 9;b1 1 12;b2 1 12;");
        d.run("prompts(1)=5 reads(2)=2 reads(3)=3 reads(4)=2 reads(5)=2");
        d.run("lays(0, 0)=STATE lays(1, 0)=STATE lays(3, 0)=STATE lays(4, 0)=STATE lays(2, 1)=STATE now(4)=0 count(6)=5");
        d.run("lays(-1, 0)=BAD lays(6, 0)=BAD lays(2, -1)=BAD lays(2, 2)=BAD lays(0, 2)=BAD lays(6, 2)=BAD lays(MIN, 0)=BAD");
        d.run("lays(MAX, 0)=BAD lays(2, MIN)=BAD lays(2, MAX)=BAD lays(2, 32)=BAD count(6)=5");
        d.run("lays(2, 0)=1 lays(2, 0)=STATE lays(2, 1)=STATE lays(4, 1)=1 lays(5, 0)=2 lays(5, 0)=STATE count(6)=8");
    }

    private void fallen() {
        sheet.says("FALLEN: the uppermost BRICK of a COLUMN is HELD again.");
        Desk d = sheet.told("w2 3;b1 0 0;b2 0 0;b0 0 0;b1 0 0;").allRead().run("lays(2, 0)=1 lays(1, 0)=2 lays(0, 0)=3 lays(3, 1)=1");
        d.run("falls(0)=0 brick(0, 3)=2 brick(0, 4)=NONE brick(1, 3)=4 brick(2, 3)=4 brick(3, 3)=4 place(0, 2)=NONE place(0, 1)=1");
        d.run("falls(0)=1 falls(0)=2 brick(2, 3)=2 falls(1)=3 now(2)=4 now(4)=0");
        sheet.says("FALLEN: the BRICK. BAD; STATE: there is none.");
        d.run("falls(0)=STATE falls(1)=STATE falls(-1)=BAD falls(2)=BAD falls(MIN)=BAD falls(MAX)=BAD");
        sheet.desk().run("falls(0)=STATE falls(3)=STATE falls(4)=BAD count(6)=0");
        oneOfEach().run("falls(1)=STATE falls(2)=STATE falls(3)=BAD count(6)=5 falls(0)=4 falls(0)=STATE count(6)=6");
    }

    private void undoneOneByOne() {
        sheet.says("UNDONE: the latest PROMPTED (also one by which none has COME), READ, WRITTEN, LAID, FALLEN");
        sheet.told("b0 0 5;").run("prompts(1)=0 count(6)=1 undo()=0 undo()=STATE");
        sheet.told("b0 0 5;").run("prompts(0)=1 prompts(0)=0 count(6)=2 undo()=1 brick(0, 3)=1 undo()=0 brick(0, 3)=0");
        sheet.told("k0 1;b0 0 5;b0 1 5;").run("prompts(1)=2 undo()=0 now(0)=2 now(1)=0");
        sheet.told("j5;b0 0 5;").run("prompts(0) reads(0)=2 undo()=1 brick(0, 3)=1 reads(0)=2");
        sheet.told("j6;b0 0 5;").run("prompts(0) reads(0)=3 undo()=1 brick(0, 3)=1 reads(0)=3");
        Desk d = sheet.told("j6;b0 0 5;").run("prompts(0) reads(0)=3 writes(0, 9)=5 undo()=2 brick(0, 2)=5 brick(0, 3)=3 writes(0, 5)=5");
        d.run("undo()=2 brick(0, 3)=3 writes(0, 8)=5 reads(0)=2 undo()=3 undo()=2 undo()=1 undo()=0 undo()=STATE brick(0, 2)=5");
        sheet.told("w1 1;b0 0 5;").allRead().run("lays(0, 0)=1 undo()=7 brick(0, 3)=2 place(0, 0)=NONE lays(0, 0)=1");
        sheet.told("w1 1;b0 0 5;").allRead().run("lays(0, 0)=1 falls(0)=0 undo()=8 brick(0, 3)=4 place(0, 0)=0 brick(0, 4)=0 undo()=7");
        sheet.says("UNDONE: how many more may be. STATE: none.");
        sheet.desk().run("undo()=STATE undo()=STATE count(6)=0 prompts(0)=0 undo()=0 undo()=STATE");
        // What is refused, and what changes nothing, is not among what may be undone.
        Desk none = sheet.told("j6;b0 0 5;b0 1 9;").run("prompts(6) reads(0) writes(0, 5) lays(0, 0) falls(0) count(6)=0 prompts(0)=1 count(6)=1");
        none.run("reads(1) writes(0, 5) lays(0, 0) falls(0) keep(0) hears(0, 1) forget() mark(5, 0) wall(0) letters(1) now(5) type(32) clear()");
        none.run("count(6)=1 undo()=0 undo()=STATE brick(0, 3)=0");
    }

    /** A desk with this many deeds behind it, each of which has changed something. */
    private Desk deeds(int n) {
        Desk d = sheet.told("j30;b0 0 0;").run("prompts(0)=1");
        for (int i = 2; i <= n; i++) d.run(i % 2 == 0 ? "reads(0)=3" : "writes(0, " + i / 2 + ")=" + (i / 2 - 1));
        return d;
    }

    private void tenAreKnown() {
        sheet.says("(10 are known, older ones are lost)");
        for (int n : new int[] {1, 2, 9, 10, 11, 12, 20, 21, 35}) {
            int known = Math.min(n, 10);
            Desk d = deeds(n).run("count(6)=" + known);
            for (int i = known - 1; i >= 0; i--) {
                int stay = n - known + i;
                d.run("undo()=" + i + " brick(0, 2)=" + Math.max(0, (stay - 1) / 2));
                d.run("brick(0, 3)=" + (stay == 0 ? 0 : stay % 2 == 1 ? 1 : 3));
            }
            d.run("undo()=STATE count(6)=0");
        }
        deeds(12).run("undo()=9 undo()=8 undo()=7 prompts(5)=0 count(6)=8 prompts(5) prompts(5) count(6)=10 prompts(5) count(6)=10")
            .times(9, "undo()").run("count(6)=1 undo()=0 brick(0, 3)=1 brick(0, 2)=1 undo()=STATE");
        // One lost is the oldest, whichever of them it is.
        for (String deed : new String[] {"prompts(1)", "reads(0)", "lays(0, 0)", "falls(0)"}) {
            Desk d = sheet.told("w1 1;b0 0 0;b0 1 0;").run("prompts(0)=1");
            if (!deed.startsWith("p")) d.run("reads(0)=2");
            if (deed.startsWith("f")) d.run("lays(0, 0)=1");
            if (!deed.startsWith("r")) d.run(deed);
            long what = d.call("brick", 0, 3);
            long other = d.call("brick", 1, 3);
            d.times(10, "prompts(4)=0").times(10, "undo()").run("undo()=STATE brick(0, 3)=" + what + " brick(1, 3)=" + other);
        }
    }

    private void undoneWhereItWas() {
        sheet.says("all is as ahead of it.");
        Desk d = sheet.told("w4 2;b0 0 0;b2 0 0;b0 0 0;").run("prompts(0) reads(0) reads(1) reads(2)");
        d.run("lays(0, 0)=1 lays(1, 0)=2 falls(0)=1 lays(1, 2)=1 falls(0)=0 lays(0, 3)=1 count(6)=10");
        d.run("undo()=9 place(3, 0)=NONE brick(0, 3)=2 undo()=8 place(0, 0)=0 place(2, 0)=1 place(3, 0)=NONE now(4)=2");
        d.run("undo()=7 place(2, 0)=NONE brick(1, 3)=2 undo()=6 place(0, 1)=1 place(0, 0)=0 brick(1, 4)=0 falls(0)=1 undo()=6");
        d.run("undo()=5 place(0, 1)=NONE place(0, 0)=0 undo()=4 place(0, 0)=NONE now(4)=0 now(2)=3 wall(0)=2 wall(3)=1");
        d.run("undo()=3 now(2)=2 undo()=2 now(2)=1 undo()=1 now(2)=0 now(1)=3 undo()=0 now(0)=3");
        for (int b = 0; b < 10; b++) undoneOfBrick(b);
    }

    /** What a brick is, its worth, column and course come back, from the first brick to the tenth. */
    private void undoneOfBrick(int b) {
        StringBuilder text = new StringBuilder("w4 2;j3;");
        int under = (b + 1) % 10;
        for (int i = 0; i < 10; i++) text.append(i == b ? "b0 0 2;" : i == under ? "b1 0 9;" : "b2 1 9;");
        Desk d = sheet.told(text.toString()).run("prompts(0)=2 reads(B)=3 writes(B, 8)=2".replace("B", "" + b));
        String seen = "brick(B, 3)=%d brick(B, 2)=%d brick(B, 4)=%s ".replace("B", "" + b);
        d.run("reads(" + b + ")=2 reads(" + under + ")=2 lays(" + under + ", 1)=1 lays(" + b + ", 1)=2 keep(0)=2");
        d.run("falls(1)=" + b + " lays(" + b + ", 0)=1 " + String.format(seen, 4, 8, "0"));
        d.run("undo()=8 " + String.format(seen, 2, 8, "NONE") + "undo()=7 " + String.format(seen, 4, 8, "1") + "place(1, 1)=" + b);
        d.run("undo()=6 undo()=5 undo()=4 undo()=3 " + String.format(seen, 1, 8, "NONE"));
        d.run("undo()=2 " + String.format(seen, 3, 2, "NONE") + "undo()=1 undo()=0 " + String.format(seen, 0, 2, "NONE"));
        d.run("prompts(0)=2 back(0)=2 " + String.format(seen, 4, 8, "1") + "place(1, 1)=" + b + " place(0, 0)=NONE");
    }
}
