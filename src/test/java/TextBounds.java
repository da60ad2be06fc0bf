/** Promises 1 to 4, and what the document says of the text and its FAULT. */
final class TextBounds {
    private static final String BLANKS = " ".repeat(120);
    private static final String TEN_BRICKS = "b0 0 0;b1 1 1;b2 2 2;b0 3 3;b1 4 4;b2 5 5;b0 0 6;b1 1 7;b2 2 8;b0 3 9;";

    private final Sheet sheet;

    TextBounds(Sheet sheet) {
        this.sheet = sheet;
    }

    void test() {
        newObject();
        theBytes();
        clearing();
        columnsAndCourses();
        shapesOfPlaces();
        holders();
        bricks();
        judges();
        sorts();
        lengthOfTheText();
        everyByte();
        blanks();
        items();
        firstOfAll();
        tokens();
        firstFault();
        lettersThatBeginNone();
        tooMany();
        numbersBeyond();
        numbersThatAreNone();
        endsTooEarly();
        chapters();
    }

    private void fault(String text, int place) {
        sheet.desk().types(text).run("chapter()=" + (-10 - place) + " count(7)=" + text.length());
    }

    private Desk fine(String text, int items) {
        return sheet.desk().types(text).run("chapter()=" + items + " count(7)=0");
    }

    private void newObject() {
        sheet.says("As told; no BRICKS, JUDGES, SORTS.");
        sheet.desk().run("count(0)=4 count(1)=3 count(2)=0 count(3)=0 count(4)=0 count(5)=0 count(6)=0 count(7)=0");
        sheet.desk().run("brick(0, 0)=BAD reads(0)=BAD writes(0, 0)=BAD lays(0, 0)=BAD mark(0, 0)=NO");
        sheet.desk().run("judge(0, 0)=BAD judge(0, 1)=BAD hears(0, 0)=BAD turn(0, 0)=BAD");
        sheet.desk().run("apology(0, -1)=0 apology(0, 0)=NONE apology(1, -1)=NONE apology(-1, 0)=NONE");
        sheet.desk().run("kin(0)=0 kin(1)=0 kin(2)=0 kin(3)=0 kin(4)=0 kin(5)=0");
        sheet.desk().run("now(0)=0 now(1)=0 now(2)=0 now(3)=0 now(4)=0 now(5)=0");
        sheet.desk().run("wall(0)=0 wall(3)=0 place(0, 0)=NONE place(3, 2)=NONE letters(1)=NONE letters(24)=NONE");
        sheet.desk().run("odds(10, 0)=1000000 worths(0)=31 worths(1)=0 worths(2)=30 ask()=NONE");
        sheet.desk().run("undo()=STATE back(0)=STATE back(1)=STATE trace()=0 forget()=0 clear()=0 chapter()=0");
        sheet.desk().run("keep(0)=0 back(0)=0 back(1)=STATE undo()=STATE");
    }

    private void theBytes() {
        sheet.says("A byte (0 .. 255) comes to THE TEXT: how many it has. BAD; FULL.");
        sheet.desk().run("type(-1)=BAD type(256)=BAD type(MIN)=BAD type(MAX)=BAD count(7)=0 type(0)=1 type(255)=2 count(7)=2");
        Desk each = sheet.desk();
        for (int c = 0; c <= 255; c++) {
            each.run("type(" + c + ")=" + (c % 100 + 1));
            if (c % 100 == 99) each.run("clear()=100");
        }
        Desk full = sheet.desk();
        for (int n = 1; n <= 120; n++) full.run("type(32)=" + n);
        full.run("type(32)=FULL type(0)=FULL type(255)=FULL type(-1)=BAD type(256)=BAD type(MIN)=BAD count(7)=120");
        full.run("clear()=120 type(32)=1");
        for (int n = 2; n <= 120; n++) full.run("type(59)=" + n);
        full.run("type(59)=FULL chapter()=-11 type(59)=FULL count(7)=120");
    }

    private void clearing() {
        sheet.says("THE TEXT is empty: how many bytes it had.");
        sheet.desk().run("clear()=0 clear()=0 type(106)=1 clear()=1 clear()=0 count(7)=0 chapter()=0");
        sheet.desk().types(BLANKS.substring(1)).run("clear()=119 clear()=0");
        sheet.desk().types(BLANKS).run("clear()=120 type(106)=1");
        sheet.desk().types(BLANKS + "j5;").run("clear()=120");
        sheet.desk().types("j5;").run("chapter()=1 clear()=0");
        sheet.desk().types("j5").run("chapter()=-12 clear()=2 chapter()=0");
        sheet.told("w2 2;j7;b1 2 3;").types("j").run("prompts(2) clear()=1 count(0)=2 judge(0, 0)=7 brick(0, 3)=1 undo()=0");
        sheet.desk().types("j1;j2;j3;").run("clear()=9").types("j4").run("chapter()=-12");
        sheet.desk().types("j100;").run("clear()").types("j1").run("chapter()=-12");
        sheet.desk().types("bb0 0 0;").run("clear()").types("b").run("chapter()=-11");
        sheet.desk().types("j5;  ").run("clear()").types("j5").run("chapter()=-12");
    }

    private void columnsAndCourses() {
        sheet.says("6; 4 at first), COURSES (1 .. 4; 3 at first).");
        sheet.desk().run("place(3, 2)=NONE place(4, 0)=BAD place(0, 3)=BAD wall(3)=0 wall(4)=BAD falls(3)=STATE falls(4)=BAD");
        for (int x = 1; x <= 6; x++) {
            for (int y = 1; y <= 4; y++) {
                Desk d = fine("w" + x + " " + y + ";", 1).run("count(0)=" + x + " count(1)=" + y);
                d.run("place(" + (x - 1) + ", " + (y - 1) + ")=NONE place(" + x + ", 0)=BAD place(0, " + y + ")=BAD");
                d.run("wall(" + (x - 1) + ")=0 wall(" + x + ")=BAD falls(" + (x - 1) + ")=STATE falls(" + x + ")=BAD");
                d.run("place(-1, 0)=BAD place(0, -1)=BAD wall(-1)=BAD falls(-1)=BAD");
                d.types("j5;").run("chapter()=1 count(0)=4 count(1)=3");
            }
        }
        fault("w0 1;", 1);
        fault("w7 1;", 1);
        fault("w1 0;", 3);
        fault("w1 5;", 3);
    }

    private void shapesOfPlaces() {
        sheet.says("A place of a COLUMN x in a COURSE y (0 the lowest) has a SHAPE: (twice y) and x, together, left over by 3.");
        String[] shapes = {"012012", "201201", "120120", "012012"};
        for (int x = 0; x < 6; x++) {
            StringBuilder below = new StringBuilder("w6 4;");
            for (int y = 0; y < 4; y++) {
                Desk d = sheet.told(below + "b0 0 0;b1 0 0;b2 0 0;").allRead();
                for (int i = 0; i < y; i++) d.run("lays(" + i + ", " + x + ")=" + (i + 1));
                int due = shapes[y].charAt(x) - '0';
                for (int s = 0; s < 3; s++) {
                    long fits = d.call("brick", y + s, 5) >> x & 1;
                    sheet.due("fits of shape " + s + " at " + x + ", " + y, fits, s == due ? 1 : 0);
                    if (s != due) d.run("lays(" + (y + s) + ", " + x + ")=STATE");
                }
                d.run("lays(" + (y + due) + ", " + x + ")=" + (y + 1) + " place(" + x + ", " + y + ")=" + (y + due));
                below.append("b").append(due).append(" 0 0;");
            }
        }
    }

    private void holders() {
        sheet.says("HOLDERS 0 .. 5; some two are KIN.");
        sheet.desk().run("kin(0)=0 kin(5)=0 kin(-1)=BAD kin(6)=BAD prompts(0)=0 prompts(5)=0 prompts(-1)=BAD prompts(6)=BAD");
        fine("b0 0 0;b0 5 0;", 2).run("brick(0, 1)=0 brick(1, 1)=5 prompts(5)=1 prompts(0)=1");
        fault("b0 6 0;", 3);
        sheet.says("k A B (two unlike HOLDERS are KIN)");
        for (int a = 0; a < 6; a++) {
            for (int b = 0; b < 6; b++) {
                String text = "k" + a + " " + b + ";";
                if (a == b) {
                    fault(text, 3);
                    continue;
                }
                Desk d = fine(text, 1);
                for (int h = 0; h < 6; h++) d.run("kin(" + h + ")=" + (h == a ? 1 << b : h == b ? 1 << a : 0));
            }
        }
        fine("k0 1;k0 1;k1 0;", 3).run("kin(0)=2 kin(1)=1");
        fine("k0 1;k0 2;k0 3;k0 4;k0 5;", 5).run("kin(0)=62 kin(1)=1 kin(5)=1");
        sheet.told("k0 1;").types("k2 3;").run("chapter()=1 kin(0)=0 kin(1)=0 kin(2)=8 kin(3)=4");
    }

    private void bricks() {
        sheet.says("BRICKS 0 .. (10 at most): SHAPE (0 .. 2), HOLDER, WORTH of its letter (0 .. 30).");
        fine("b0 0 0;", 1).run("brick(0, 0)=0 brick(0, 1)=0 brick(0, 2)=0 brick(1, 0)=BAD");
        fine("b2 5 30;", 1).run("brick(0, 0)=2 brick(0, 1)=5 brick(0, 2)=30 brick(1, 0)=BAD");
        Desk ten = fine(TEN_BRICKS, 10).run("count(2)=10 brick(10, 0)=BAD");
        for (int b = 0; b < 10; b++) {
            ten.run("brick(" + b + ", 0)=" + b % 3 + " brick(" + b + ", 1)=" + b % 6 + " brick(" + b + ", 2)=" + b);
        }
        Desk nine = fine(TEN_BRICKS.substring(0, 63), 9).run("count(2)=9 brick(8, 2)=8 brick(9, 0)=BAD");
        nine.types(TEN_BRICKS + "b0 0 0;").run("chapter()=-80 count(2)=9 brick(9, 0)=BAD");
        sheet.says("b S H W (the next BRICK)");
        fine("b1 2 3;j5;b2 3 4;s5;b0 4 5;k0 1;", 6).run("brick(0, 2)=3 brick(1, 2)=4 brick(2, 2)=5 count(2)=3");
    }

    private void judges() {
        sheet.says("JUDGES 0 .. (3 at most): EAR (0 .. 30).");
        fine("", 0).run("count(3)=0 judge(0, 0)=BAD");
        fine("j0;", 1).run("count(3)=1 judge(0, 0)=0 judge(1, 0)=BAD");
        fine("j30;j0;", 2).run("count(3)=2 judge(0, 0)=30 judge(1, 0)=0 judge(2, 0)=BAD");
        fine("j1;j2;j3;", 3).run("count(3)=3 judge(0, 0)=1 judge(1, 0)=2 judge(2, 0)=3 judge(3, 0)=BAD");
        sheet.says("j E (the next JUDGE)");
        fine("j9;b0 0 0;j8;s1;j7;", 5).run("judge(0, 0)=9 judge(1, 0)=8 judge(2, 0)=7");
    }

    private void sorts() {
        sheet.says("SORTS of words 0 .. (5 at most): WORTH (-9 .. 9; told as it is and 9: 0 .. 18).");
        for (int told = 0; told <= 18; told++) {
            Desk d = fine("s" + told + ";", 1).run("count(4)=1");
            for (int n = -10; n <= 10; n++) {
                d.run("apology(" + n + ", -1)=" + (n == 0 ? "0" : n == told - 9 ? "1" : "NONE"));
            }
        }
        fine("s0;s1;s2;s3;", 4).run("count(4)=4 apology(-6, 0)=3 apology(-5, -1)=NONE");
        fine("s0;s1;s2;s3;s4;", 5).run("count(4)=5 apology(-5, 0)=4");
        sheet.says("s W (the next SORT)");
        fine("s18;j1;s17;b0 0 0;s16;", 5).run("apology(9, 0)=0 apology(8, 0)=1 apology(7, 0)=2");
    }

    private void lengthOfTheText() {
        sheet.says("They are a text (120 bytes at most)");
        fine(BLANKS.substring(4) + "j5;", 1).run("judge(0, 0)=5");
        fine(BLANKS.substring(3) + "j5;", 1).run("judge(0, 0)=5");
        sheet.desk().types(BLANKS.substring(2) + "j5;").run("count(7)=120 type(59)=FULL chapter()=-130 count(7)=120");
        fine("j5;" + BLANKS, 1);
        fault(BLANKS.substring(1) + ";", 119);
        fault(BLANKS.substring(1) + "!", 119);
        fault(BLANKS.substring(1) + "j", 120);
        fault(BLANKS.substring(3) + "j10", 120);
        fault("j5" + BLANKS.substring(2), 120);
        fine("k0 1;".repeat(24), 24).run("kin(0)=2");
        fault("k0 1;".repeat(23) + "k0 1!", 119);
    }

    /** Each byte by itself, ahead of an item, within it, and behind it. */
    private void everyByte() {
        sheet.says("read byte by byte");
        for (int c = 0; c <= 255; c++) {
            String sign = String.valueOf((char) c);
            boolean beginsItem = "wkbjs".indexOf(c) >= 0;
            boolean digit = c >= '0' && c <= '9';
            boolean letter = c >= 'a' && c <= 'z';
            if (c == ' ') fine(sign, 0);
            else fault(sign, beginsItem ? 1 : 0);
            if (c == ' ') fine(sign + "j5;", 1);
            else fault(sign + "j5;", 0);
            if (c == ' ' || c == '1' || c == '2') fine("j" + sign + "5;", 1);
            else fault("j" + sign + "5;", letter ? 0 : 1);
            if (c == ';') fine("j5" + sign, 1);
            else fault("j5" + sign, c == ' ' ? 3 : digit ? 1 : 2);
        }
    }

    private void blanks() {
        sheet.says("blanks (32) ahead of, between and behind TOKENS as may be (none needed where TOKENS end without)");
        fine("w6 4;k0 1;b0 0 0;j5;s5;", 5);
        fine("  w  6   4  ;  k  0  1  ;  b  0  0  0  ;  j  5  ;  s  5  ;  ", 5);
        fine(" ", 0);
        fine(BLANKS, 0);
        fine("j5 ;", 1);
        fine("j 5;", 1);
        fine(" j5; ", 1);
        fine("j5;j6;", 2);
        fine("j5; j6;", 2);
        fault("w64;", 1);
        fault("w 6 4", 5);
        fault("k01;", 1);
        fault("b000;", 1);
        fault("b0 00;", 3);
        fault("b00 0;", 1);
        fault("j1 5;", 3);
        fault("j\t5;", 1);
        fault("j5;\n", 3);
        fault("j5" + (char) 160 + ";", 2);
        fault("j5" + (char) 31 + ";", 2);
        fault("j5!;", 2);
    }

    private void items() {
        sheet.says("ITEMS (none, too), each letters and what is told, ended by ;");
        fine("", 0).run("count(0)=4 count(1)=3 count(2)=0 count(3)=0 count(4)=0");
        sheet.told("w6 4;k0 1;j5;s5;b0 0 0;").run("chapter()=0 count(0)=4 count(1)=3 count(2)=0 count(3)=0 count(4)=0 kin(0)=0");
        sheet.told("w6 4;j5;").types("   ").run("chapter()=0 count(0)=4 count(3)=0");
        fine("j5;", 1);
        fine("j5;s5;", 2);
        fault(";", 0);
        fault("j5;;", 3);
        fault("j5; ;", 4);
        fault("j;", 1);
        fault("s;", 1);
        fault("w;", 1);
        fault("w1;", 2);
        fault("w1 1 1;", 5);
        fault("k;", 1);
        fault("k0;", 2);
        fault("k0 1 2;", 5);
        fault("b;", 1);
        fault("b0;", 2);
        fault("b0 0;", 4);
        fault("b0 0 0 0;", 7);
        fault("j5 5;", 3);
        fault("s5 5;", 3);
        fault("j5 j5;", 3);
        fault("b0 0 0b0 0 0;", 6);
        fault("5;", 0);
        fault("j5;5;", 3);
    }

    private void firstOfAll() {
        sheet.says(": w X Y (COLUMNS, COURSES; the first of all, if it is told)");
        fine("w1 4;", 1).run("count(0)=1 count(1)=4");
        fine(" w 6 1;", 1).run("count(0)=6 count(1)=1");
        fine("j5;", 1).run("count(0)=4 count(1)=3");
        sheet.told("w2 2;").types("w3 4;").run("chapter()=1 count(0)=3 count(1)=4").types("j5;").run("chapter()=1 count(0)=4");
        sheet.says("w behind another ITEM");
        fault("w2 2;w3 3;", 5);
        fault("w2 2;k0 1;w3 3;", 10);
        fault("k0 1;w2 2;", 5);
        fault("b0 0 0; w2 2;", 8);
        fault("j5;w2 2;", 3);
        fault("s5;w", 3);
        fault("s5;w99", 3);
    }

    private void tokens() {
        sheet.says("TOKENS are letters a .. z side by side, NUMBERS and ; .");
        fault("a", 0);
        fault("z", 0);
        fault("`", 0);
        fault("{", 0);
        fault("J5;", 0);
        fault("jA5;", 1);
        fault("jz5;", 0);
        fault("j5z;", 2);
        fault("jjjjjjjj5;", 0);
        fault("j/;", 1);
        fault("j:;", 1);
        fault("j5/;", 2);
        fault("j5:;", 2);
        fault("j5,", 2);
        fault("j5.", 2);
        fine("j0;", 1);
        fine("j9;", 1);
        fine("j10;", 1);
        fine("j19;", 1);
    }

    private void firstFault() {
        sheet.says("FAULT: the place of the first byte of the first TOKEN that can't stand there");
        fault("b9 9 99;", 1);
        fault("b0 9 99;", 3);
        fault("b0 0 99;", 5);
        fault("b0 0 99 9", 5);
        fault("x!", 0);
        fault("!x", 0);
        fault("j5;!;j99;", 3);
        fault("j5 5 100;", 3);
        fault("q 100;", 0);
        fault("j100 q;", 1);
        fault("j5 q!", 3);
        fault("w7 9;", 1);
        fault("k9 9;", 1);
        fault("k0 0 0;", 3);
        fault("   j  77  ;", 6);
    }

    private void lettersThatBeginNone() {
        sheet.says("letters that begin no ITEM");
        for (char c = 'a'; c <= 'z'; c++) {
            if ("wkbjs".indexOf(c) < 0) {
                fault(c + "5;", 0);
                fault("j5; " + c + " 5;", 4);
            }
            fault("w" + c + "1 1;", 0);
            fault("j5;k" + c + "0 1;", 3);
            fault("j5;b" + c + "0 0 0;", 3);
            fault("j5;j" + c + "5;", 3);
            fault("j5;" + c + "s5;", 3);
        }
    }

    private void tooMany() {
        sheet.says("an eleventh BRICK");
        fine(TEN_BRICKS + "j5;s5;k0 1;", 13).run("count(2)=10");
        fault(TEN_BRICKS + "b0 0 0;", 70);
        fault(TEN_BRICKS + "j5;  b0 0 0;", 75);
        fault(TEN_BRICKS + "b", 70);
        fault(TEN_BRICKS + "b9 9 99", 70);
        sheet.says("a fourth JUDGE");
        fine("j1;j2;j3;b0 0 0;s5;", 5).run("count(3)=3");
        fault("j1;j2;j3;j4;", 9);
        fault("j1;j2;j3;s5; j", 13);
        fault("j1;j2;j3;j99;", 9);
        sheet.says("a sixth SORT");
        fine("s1;s2;s3;s4;s5;j5;", 6).run("count(4)=5");
        fault("s1;s2;s3;s4;s5;s6;", 15);
        fault("s1;s2;s3;s4;s5;j5;s", 18);
        fault("s1;s2;s3;s4;s5;s99;", 15);
        sheet.says("B that is A");
        for (int a = 0; a < 6; a++) {
            fault("k" + a + " " + a + ";", 3);
            fault("k" + a + "   " + a, 5);
        }
    }

    private void numbersBeyond() {
        sheet.says("a NUMBER beyond what it may be, too");
        numbers("w", " 2;", 1, 6);
        numbers("w2 ", ";", 1, 4);
        numbers("k", " 5;", 0, 4);
        numbers("k5 ", ";", 0, 4);
        numbers("b", " 0 0;", 0, 2);
        numbers("b0 ", " 0;", 0, 5);
        numbers("b0 0 ", ";", 0, 30);
        numbers("j", ";", 0, 30);
        numbers("s", ";", 0, 18);
    }

    private void numbers(String ahead, String behind, int least, int greatest) {
        for (int n = 0; n <= 130; n++) {
            // That B is A is another fault, at B.
            if (ahead.equals("k") && n == 5) fault("k5 5;", 3);
            else if (n >= least && n <= greatest) fine(ahead + n + behind, 1);
            else fault(ahead + n + behind, ahead.length());
        }
    }

    private void numbersThatAreNone() {
        sheet.says("of a byte that begins none");
        fault("j5;" + (char) 0, 3);
        fault("j5;" + (char) 255, 3);
        fault("s-1;", 1);
        fault("s+1;", 1);
        fault("j5;W1 1;", 3);
        fault("b0 0 ?;", 5);
        fault("b0 ?", 3);
        sheet.says("a NUMBER above 99 or with a 0 ahead of others, that TOKEN's");
        fault("j99;", 1);
        fault("j100;", 1);
        fault("j105;", 1);
        fault("j999;", 1);
        fault("j4294967296;", 1);
        fault("j4294967301;", 1);
        fault("j18446744073709551621;", 1);
        fault("j00;", 1);
        fault("j05;", 1);
        fault("j005;", 1);
        fault("b0 0 00;", 5);
        fault("b0 0 012;", 5);
        fault("b0 0 300;", 5);
        fault("100", 0);
        fault("j5;05", 3);
        fault("j 100", 2);
        fault("w 1 01", 4);
        fine("j0;", 1).run("judge(0, 0)=0");
    }

    private void endsTooEarly() {
        sheet.says("the text's length, if it ends too early.");
        String whole = "  w 6 4 ; k0 5;b2 5 30 ;j30;  s18;b0 0 0;  k5 4; ";
        for (int length = 0; length <= whole.length(); length++) {
            String text = whole.substring(0, length);
            int ended = text.length() - text.replace(";", "").length();
            if (text.isBlank() || text.trim().endsWith(";")) fine(text, ended);
            else fault(text, length);
        }
    }

    private void chapters() {
        sheet.says("THE TEXT tells all, and is empty then: how many ITEMS.");
        fine("w5 2;k0 1;j9;s3;b1 2 3;", 5).run("count(0)=5 count(1)=2 count(2)=1 count(3)=1 count(4)=1 kin(1)=1 clear()=0");
        sheet.told("j5;").run("chapter()=0 count(3)=0").types("j6;").run("chapter()=1 judge(0, 0)=6 judge(1, 0)=BAD");
        sheet.says("-10 less FAULT: nothing changes (THE TEXT, too, stays).");
        fault("x", 0);
        sheet.desk().types("j5").run("chapter()=-12 chapter()=-12 type(59)=3 chapter()=1 judge(0, 0)=5");
        sheet.desk().types("j").run("chapter()=-11 type(55)=2 chapter()=-12 type(59)=3 chapter()=1 judge(0, 0)=7");
        sheet.desk().types(BLANKS.substring(1) + "!").run("chapter()=-129 count(7)=120 type(32)=FULL clear()=120");
        Desk d = sheet.told("w2 2;k0 1;j9;s3;b0 0 9;").run("prompts(0)=1 hears(0, 1)=1 keep(0)=0 mark(0, 0)=9 reads(0)=2");
        d.types("w5 4;k2 3;j1;j2;s8;b1 1 1;b").run("chapter()=-37 count(0)=2 count(1)=2 count(2)=1 count(3)=1 count(4)=1");
        d.run("count(5)=1 count(6)=2 count(7)=27 kin(0)=2 kin(2)=0 judge(0, 0)=9 brick(0, 3)=2 brick(0, 0)=0 brick(0, 2)=9");
        d.run("apology(-6, -1)=1 apology(-1, -1)=NONE trace()=1 back(1)=STATE back(0)=0 brick(0, 3)=1 undo()=0 brick(0, 3)=0");
    }
}
