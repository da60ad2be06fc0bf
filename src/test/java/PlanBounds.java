import java.math.BigInteger;

/** Promises 15 to 20, and what the document says of WALL, WRITE, APOLOGY, TURN and ODDS. */
final class PlanBounds {
    private final Sheet sheet;

    PlanBounds(Sheet sheet) {
        this.sheet = sheet;
    }

    void test() {
        now();
        wallWithin();
        wallByWhatIsHeld();
        mostThenGreatest();
        wallOfAColumn();
        whomToWriteTo();
        fewestThenLeast();
        whatCounts();
        writingBounds();
        fewestWords();
        noneTwiceRunning();
        firstRow();
        apologyBounds();
        turns();
        turnWhateverItIs();
        odds();
        oddsBounds();
    }

    /** The heights of all columns by WALL, and how many more that is. */
    private void wall(Desk d, int more, int... heights) {
        d.run("now(5)=" + more);
        for (int x = 0; x < heights.length; x++) d.run("wall(" + x + ")=" + heights[x]);
    }

    private void now() {
        sheet.says("0 how many are AWAY, 1 COME, 2 HELD, 3 REFUSED, 4 LAID, 5 WALL: how many more. BAD.");
        sheet.desk().run("now(0)=0 now(1)=0 now(2)=0 now(3)=0 now(4)=0 now(5)=0 now(-1)=BAD now(6)=BAD now(MIN)=BAD now(MAX)=BAD");
        Desk d = sheet.told("w1 1;j5;" + "b0 0 5;".repeat(10)).run("now(0)=10 now(1)=0 now(5)=0 prompts(0)=10 now(0)=0 now(1)=10 now(5)=0");
        for (int b = 0; b < 10; b++) d.run("reads(" + b + ")=2");
        d.run("now(1)=0 now(2)=10 now(3)=0 now(5)=1 lays(0, 0)=1 now(2)=9 now(4)=1 now(5)=0");
        Desk e = sheet.told("j6;" + "b0 0 5;".repeat(10)).run("prompts(0)=10");
        for (int b = 0; b < 10; b++) e.run("reads(" + b + ")=3");
        e.run("now(0)=0 now(1)=0 now(2)=0 now(3)=10 now(4)=0 now(5)=0 writes(9, 6)=5 now(3)=9 now(1)=1");
        Desk ten = sheet.told("w6 2;b0 0 0;b1 0 0;b2 0 0;b0 0 0;b1 0 0;b2 0 0;b2 0 0;b0 0 0;b1 0 0;b2 0 0;").allRead();
        for (int b = 0; b < 10; b++) ten.run("now(5)=" + (10 - b) + " lays(" + b + ", " + b % 6 + ")=" + (b / 6 + 1));
        ten.run("now(4)=10 now(2)=0 now(5)=0");
    }

    private void wallWithin() {
        sheet.says("WALL: of all heights of COLUMNS (each as high as NOW or higher, COURSES at most)");
        wall(sheet.desk(), 0, 0, 0, 0, 0);
        for (int courses = 1; courses <= 4; courses++) {
            Desk d = sheet.told("w1 " + courses + ";b0 0 0;b2 0 0;b1 0 0;b0 0 0;b2 0 0;").allRead();
            for (int y = 0; y < courses; y++) {
                wall(d, courses - y, courses);
                d.run("lays(" + y + ", 0)=" + (y + 1));
            }
            wall(d, 0, courses);
        }
        // What is laid stays, though its bricks would make more elsewhere.
        Desk low = sheet.told("w2 2;b1 0 0;b0 0 0;b2 0 0;").allRead();
        wall(low, 3, 2, 1);
        low.run("lays(0, 1)=1 lays(1, 1)=2");
        wall(low, 0, 0, 2);
        low.run("falls(1)=1");
        wall(low, 2, 2, 1);
    }

    private void wallByWhatIsHeld() {
        sheet.says("for which as many of each SHAPE as are needed are HELD");
        Desk d = sheet.told("w2 2;j5;b0 0 5;b0 0 4;b2 0 5;b1 1 5;");
        wall(d, 0, 0, 0);
        d.run("prompts(0)=3");
        wall(d, 0, 0, 0);
        d.run("reads(1)=3");
        wall(d, 0, 0, 0);
        d.run("reads(2)=2");
        wall(d, 0, 0, 0);
        d.run("reads(0)=2");
        wall(d, 2, 2, 0);
        d.run("lays(0, 0)=1");
        wall(d, 1, 2, 0);
        d.run("prompts(1)=1 reads(3)=2");
        wall(d, 2, 2, 1);
        wall(sheet.told("w6 4;b1 0 0;b1 0 0;").allRead(), 2, 0, 1, 0, 0, 1, 0);
        wall(sheet.told("w6 4;b2 0 0;b2 0 0;b2 0 0;").allRead(), 2, 0, 0, 1, 0, 0, 1);
        wall(sheet.told("w1 4;b2 0 0;b1 0 0;").allRead(), 0, 0);
        wall(sheet.told("w1 4;b0 0 0;b1 0 0;").allRead(), 1, 1);
        wall(sheet.told("w1 4;b0 0 0;b2 0 0;b1 0 0;").allRead(), 3, 3);
        wall(sheet.told("w1 4;b0 0 0;b2 0 0;b1 0 0;b0 0 0;").allRead(), 4, 4);
    }

    private void mostThenGreatest() {
        sheet.says("that with most BRICKS, of several those of the greatest heights (COLUMN by COLUMN, from 0 on): how many more");
        // Column 0 could rise by one; then column 2 could not by two.
        Desk d = sheet.told("w3 2;b0 0 0;b1 0 0;b0 0 0;b2 0 0;b1 0 0;").allRead().run("lays(0, 0)=1 lays(1, 1)=1 lays(2, 1)=2");
        wall(d, 2, 1, 2, 2);
        wall(sheet.told("w4 1;b0 0 0;").allRead(), 1, 1, 0, 0, 0);
        wall(sheet.told("w6 1;b0 0 0;b1 0 0;b2 0 0;").allRead(), 3, 1, 1, 1, 0, 0, 0);
        wall(sheet.told("w3 3;b0 0 0;b1 0 0;b2 0 0;").allRead(), 3, 3, 0, 0);
        wall(sheet.told("w3 2;b0 0 0;b1 0 0;b2 0 0;").allRead(), 3, 2, 1, 0);
        wall(sheet.told("w2 2;b0 0 0;b1 0 0;").allRead(), 2, 1, 1);
        wall(sheet.told("w3 4;b1 0 0;b2 0 0;").allRead(), 2, 0, 1, 1);
        wall(sheet.told("w5 1;b1 0 0;").allRead(), 1, 0, 1, 0, 0, 0);
        wall(sheet.told("w6 4;b0 0 0;b0 0 0;b1 0 0;b1 0 0;b2 0 0;b2 0 0;").allRead(), 6, 4, 1, 1, 0, 0, 0);
        String ten = "b0 0 0;b0 0 0;b0 0 0;b0 0 0;b1 0 0;b1 0 0;b1 0 0;b2 0 0;b2 0 0;b2 0 0;";
        wall(sheet.told("w6 4;" + ten).allRead(), 10, 4, 4, 1, 1, 0, 0);
    }

    private void wallOfAColumn() {
        sheet.says("how high a COLUMN is then.");
        wall(sheet.told("w2 4;b1 0 0;b0 0 0;b2 0 0;b1 0 0;").allRead().run("lays(0, 1)=1"), 3, 3, 1);
        sheet.says("How high a COLUMN is by WALL. BAD.");
        for (int columns = 1; columns <= 6; columns++) {
            Desk d = sheet.told("w" + columns + " 2;b0 0 0;").allRead().run("wall(0)=1 wall(" + columns + ")=BAD wall(-1)=BAD wall(MIN)=BAD wall(MAX)=BAD");
            for (int x = 1; x < columns; x++) d.run("wall(" + x + ")=0");
        }
        sheet.desk().run("wall(0)=0 wall(3)=0 wall(4)=BAD wall(-1)=BAD");
    }

    private void whomToWriteTo() {
        sheet.says("WRITE to n (1 .. 24)");
        sheet.desk().run("letters(1)=NONE letters(24)=NONE letters(0)=BAD letters(25)=BAD letters(-1)=BAD letters(MIN)=BAD letters(MAX)=BAD");
        Desk d = sheet.told("w6 4;b0 0 0;b1 0 0;b2 0 0;b0 0 0;b1 0 0;b2 0 0;b2 0 0;b0 0 0;b1 0 0;b2 0 0;");
        for (int n = 1; n <= 24; n++) d.run("letters(" + n + ")=" + (n <= 10 ? "1" : "NONE"));
        d.run("letters(0)=BAD letters(25)=BAD");
        // Six places alone: as many as that, no more.
        Desk low = sheet.told("w6 1;b0 0 0;b1 0 0;b2 0 0;b0 0 0;b1 0 0;b2 0 0;b2 0 0;b0 0 0;b1 0 0;b2 0 0;");
        low.run("letters(1)=1 letters(6)=1 letters(7)=NONE letters(10)=NONE letters(24)=NONE");
    }

    private void fewestThenLeast() {
        sheet.says("the fewest HOLDERS (bits, of several sets the least) who must be PROMPTED");
        sheet.told("w6 1;b0 0 0;b1 1 0;b0 5 0;b1 5 0;").run("letters(1)=1 letters(2)=32 letters(3)=33 letters(4)=35 letters(5)=NONE");
        sheet.told("w6 1;b0 4 0;b0 3 0;b0 2 0;").run("letters(1)=4 letters(2)=12 letters(3)=NONE");
        sheet.told("w6 1;b0 1 0;b1 2 0;b0 3 0;b1 4 0;").run("letters(1)=2 letters(2)=6 letters(3)=14 letters(4)=30");
        Desk six = sheet.told("w6 1;b0 0 0;b0 1 0;b1 2 0;b1 3 0;b2 4 0;b2 5 0;");
        six.run("letters(1)=1 letters(2)=3 letters(3)=7 letters(4)=15 letters(5)=31 letters(6)=63 letters(7)=NONE");
        sheet.told("w1 2;b2 0 0;b0 5 0;").run("letters(1)=32 letters(2)=33 letters(3)=NONE");
        // Kin send theirs, too; kin of kin don't.
        sheet.told("w6 1;k0 5;b0 0 0;b1 5 0;b2 1 0;").run("letters(1)=1 letters(2)=1 letters(3)=3");
        sheet.told("w6 1;k3 4;k4 5;b0 3 0;b1 4 0;b2 5 0;").run("letters(1)=8 letters(2)=8 letters(3)=16");
        sheet.told("w6 1;k2 5;b0 5 0;").run("letters(1)=4");
    }

    private void whatCounts() {
        sheet.says("so that, were all that comes by that HELD without being READ (and all that has COME NOW, too; REFUSED ones not)");
        sheet.told("w6 1;j30;b0 3 0;").run("letters(1)=8 prompts(3)=1 letters(1)=0 reads(0)=3 letters(1)=NONE writes(0, 0)=0 letters(1)=0");
        Desk d = sheet.told("w6 1;j10;b0 0 10;b0 1 9;b1 2 9;b1 3 9;").run("prompts(0)=1 letters(1)=0 letters(2)=2 reads(0)=2 letters(1)=0 letters(2)=2");
        d.run("prompts(1)=1 letters(2)=0 letters(3)=4 reads(1)=3 letters(1)=0 letters(2)=4 letters(3)=12 letters(4)=NONE");
        d.run("lays(0, 0)=1 letters(1)=4 letters(2)=12 letters(3)=NONE falls(0)=0 letters(3)=12");
        sheet.says("WALL would be n more at least; NONE.");
        sheet.told("w2 1;b0 0 0;b1 0 0;").run("letters(1)=1 letters(2)=1 letters(3)=NONE");
        sheet.told("w1 1;b0 0 0;b0 1 0;").run("prompts(0) reads(0) letters(1)=0 lays(0, 0)=1 letters(1)=NONE falls(0) letters(1)=0");
        sheet.told("w3 2;b0 0 0;b2 1 0;b1 2 0;").run("letters(1)=1 letters(2)=3 letters(3)=7 letters(4)=NONE");
        sheet.told("w1 4;b2 0 0;b1 1 0;").run("letters(1)=NONE prompts(0) prompts(1) letters(1)=NONE");
    }

    private void writingBounds() {
        sheet.says("WRITE, as bits; NONE. BAD.");
        sheet.told("w6 4;b0 5 0;").run("letters(1)=32 letters(2)=NONE letters(24)=NONE letters(25)=BAD letters(0)=BAD now(0)=1 count(6)=0");
        sheet.told("b0 0 0;").run("prompts(0)=1 letters(1)=0 reads(0)=2 letters(1)=0 now(2)=1 count(6)=2");
    }

    private void fewestWords() {
        sheet.says("APOLOGY for n (-30 .. 30): the fewest words (0 .. 5), each of a SORT");
        Desk d = sheet.told("s10;s11;s12;").run("apology(0, -1)=0 apology(1, -1)=1 apology(2, -1)=1 apology(3, -1)=1 apology(3, 0)=2");
        d.run("apology(4, -1)=2 apology(5, -1)=2 apology(6, -1)=3 apology(13, -1)=5 apology(14, -1)=NONE");
        for (int n = -30; n < 0; n++) d.run("apology(" + n + ", -1)=NONE");
        sheet.told("s18;s9;").run("apology(9, -1)=1 apology(18, -1)=3 apology(27, -1)=5 apology(30, -1)=NONE apology(-9, -1)=NONE");
        sheet.told("s18;s15;").run("apology(30, -1)=4 apology(24, -1)=3 apology(15, -1)=2 apology(29, -1)=NONE");
        sheet.told("s0;s3;").run("apology(-30, -1)=4 apology(-24, -1)=3 apology(-15, -1)=2 apology(-29, -1)=NONE");
        sheet.told("s14;s9;").run("apology(15, -1)=5 apology(20, -1)=NONE");
        sheet.told("s9;").run("apology(0, -1)=0 apology(1, -1)=NONE");
        sheet.told("s17;s0;").run("apology(7, -1)=3 apology(6, -1)=5 apology(5, -1)=NONE apology(-1, -1)=2 apology(-10, -1)=3 apology(-11, -1)=5");
    }

    private void noneTwiceRunning() {
        sheet.says("none of the SORT of the one ahead of it, of which WORTHS together are n");
        sheet.told("s14;").run("apology(5, -1)=1 apology(10, -1)=NONE apology(10, 0)=NONE apology(15, -1)=NONE");
        Desk two = sheet.told("s14;s14;").run("apology(10, -1)=2 apology(10, 0)=0 apology(10, 1)=1 apology(25, -1)=5 apology(30, -1)=NONE");
        two.run("apology(25, 0)=0 apology(25, 1)=1 apology(25, 2)=0 apology(25, 3)=1 apology(25, 4)=0");
        sheet.told("s12;s9;").run("apology(6, -1)=3 apology(6, 0)=0 apology(6, 1)=1 apology(6, 2)=0 apology(6, 3)=NONE");
        sheet.told("s18;s18;s18;s18;s18;").run("apology(27, -1)=3 apology(27, 0)=0 apology(27, 1)=1 apology(27, 2)=0 apology(18, 1)=1");
    }

    private void firstRow() {
        sheet.says("of several rows the first (word by word, by SORTS): how many; the k-th; NONE.");
        sheet.told("s10;s11;").run("apology(3, -1)=2 apology(3, 0)=0 apology(3, 1)=1");
        sheet.told("s11;s10;").run("apology(3, -1)=2 apology(3, 0)=0 apology(3, 1)=1");
        sheet.told("s10;s11;s12;s13;").run("apology(5, -1)=2 apology(5, 0)=0 apology(5, 1)=3 apology(6, 0)=1 apology(6, 1)=3");
        sheet.told("s13;s12;s11;s10;").run("apology(5, -1)=2 apology(5, 0)=0 apology(5, 1)=3 apology(4, -1)=1 apology(4, 0)=0 apology(4, 1)=NONE");
        sheet.told("s10;s10;s10;").run("apology(1, 0)=0 apology(4, -1)=4 apology(4, 0)=0 apology(4, 1)=1 apology(4, 2)=0 apology(4, 3)=1 apology(4, 4)=NONE");
        sheet.told("s9;s9;s9;s9;s18;").run("apology(9, 0)=4 apology(18, -1)=3 apology(18, 0)=4 apology(18, 1)=0 apology(18, 2)=4");
    }

    private void apologyBounds() {
        sheet.says("APOLOGY: how many (k = -1), the k-th SORT; NONE. BAD (k -1 .. 4).");
        Desk d = sheet.told("s18;s15;").run("apology(-31, -1)=BAD apology(31, -1)=BAD apology(MIN, -1)=BAD apology(MAX, -1)=BAD");
        d.run("apology(0, -2)=BAD apology(0, 5)=BAD apology(0, MIN)=BAD apology(0, MAX)=BAD apology(31, 5)=BAD apology(31, 0)=BAD");
        d.run("apology(30, -1)=4 apology(30, 0)=0 apology(30, 1)=1 apology(30, 2)=0 apology(30, 3)=1 apology(30, 4)=NONE apology(30, 5)=BAD");
        d.run("apology(-30, -1)=NONE apology(-30, 0)=NONE apology(-30, 4)=NONE apology(-30, -2)=BAD");
        d.run("apology(0, -1)=0 apology(0, 0)=NONE apology(0, 4)=NONE apology(9, -1)=1 apology(9, 0)=0 apology(9, 1)=NONE");
        sheet.desk().run("apology(0, -1)=0 apology(0, 0)=NONE apology(30, -1)=NONE apology(-30, 4)=NONE apology(30, 5)=BAD apology(31, -1)=BAD");
        sheet.told("s9;s14;").run("apology(15, -1)=5 apology(15, 0)=1 apology(15, 1)=0 apology(15, 2)=1 apology(15, 3)=0 apology(15, 4)=1 apology(15, 5)=BAD");
    }

    private void turns() {
        sheet.says("whether, were he for it where he is not, or not where he is, it would be REFUSED in place of HELD, or HELD in place of REFUSED, if it were READ (1, 0).");
        // By judges, by how many are for it: TURN of one who is for it, of one who is not.
        int[][] ofOneForIt = {{}, {0, 1}, {0, 0, 1}, {0, 0, 1, 0}};
        int[][] ofOneNotForIt = {{}, {1, 0}, {0, 1, 0}, {0, 1, 0, 0}};
        for (int judges = 1; judges <= 3; judges++) {
            for (int holding = 0; holding <= judges; holding++) {
                Desk d = sheet.told("j15;".repeat(holding) + "j16;".repeat(judges - holding) + "b0 0 15;");
                for (int j = 0; j < judges; j++) {
                    d.run("turn(" + j + ", 0)=" + (j < holding ? ofOneForIt : ofOneNotForIt)[judges][holding]);
                }
            }
        }
    }

    private void turnWhateverItIs() {
        sheet.says("TURN of a JUDGE for a BRICK (whatever it is)");
        Desk d = sheet.told("w1 1;j10;j10;b0 0 10;b0 0 9;").run("turn(0, 0)=1 turn(0, 1)=0 prompts(0)=2 turn(0, 0)=1 turn(0, 1)=0");
        d.run("reads(0)=2 reads(1)=3 turn(1, 0)=1 turn(1, 1)=0 lays(0, 0)=1 turn(0, 0)=1 turn(1, 0)=1 writes(1, 10)=9 turn(0, 1)=1");
        sheet.says("TURN. BAD.");
        d.run("turn(-1, 0)=BAD turn(2, 0)=BAD turn(MIN, 0)=BAD turn(MAX, 0)=BAD turn(0, -1)=BAD turn(0, 2)=BAD turn(0, MIN)=BAD turn(0, MAX)=BAD turn(2, 2)=BAD");
        sheet.told("b0 0 9;").run("turn(0, 0)=BAD");
        sheet.told("j5;").run("turn(0, 0)=BAD");
        sheet.told("j5;j5;j5;" + "b0 0 9;".repeat(10)).run("turn(2, 9)=0 turn(3, 9)=BAD turn(2, 10)=BAD");
    }

    private void odds() {
        sheet.says("ODDS by x (0 .. 10), k (0 .. 10): each LAID BRICK is a false one by x of 10, for itself: that k at most are: in MILLIONTHS (a million times that, cut).");
        for (int laid = 0; laid <= 10; laid++) {
            Desk d = sheet.told("w6 2;b0 0 0;b1 0 0;b2 0 0;b0 0 0;b1 0 0;b2 0 0;b2 0 0;b0 0 0;b1 0 0;b2 0 0;").allRead();
            for (int b = 0; b < laid; b++) d.run("lays(" + b + ", " + b % 6 + ")=" + (b / 6 + 1));
            for (int x = 0; x <= 10; x++) {
                for (int k = 0; k <= 10; k++) d.run("odds(" + x + ", " + k + ")=" + millionths(laid, x, k));
            }
        }
    }

    private static BigInteger millionths(int laid, int x, int k) {
        BigInteger sum = BigInteger.ZERO;
        BigInteger ways = BigInteger.ONE;
        for (int i = 0; i <= Math.min(k, laid); i++) {
            sum = sum.add(ways.multiply(BigInteger.valueOf(x).pow(i)).multiply(BigInteger.valueOf(10 - x).pow(laid - i)));
            ways = ways.multiply(BigInteger.valueOf(laid - i)).divide(BigInteger.valueOf(i + 1));
        }
        return sum.multiply(BigInteger.valueOf(1000000)).divide(BigInteger.TEN.pow(laid));
    }

    private void oddsBounds() {
        sheet.says("ODDS. BAD.");
        sheet.desk().run("odds(0, 0)=1000000 odds(10, 0)=1000000 odds(10, 10)=1000000 odds(-1, 0)=BAD odds(11, 0)=BAD odds(0, -1)=BAD odds(0, 11)=BAD");
        sheet.desk().run("odds(MIN, 0)=BAD odds(MAX, 0)=BAD odds(0, MIN)=BAD odds(0, MAX)=BAD odds(11, 11)=BAD odds(-1, -1)=BAD");
        Desk d = sheet.told("w1 1;b0 0 0;b0 0 0;").allRead().run("odds(10, 0)=1000000 lays(0, 0)=1 odds(10, 0)=0 odds(10, 1)=1000000 odds(0, 0)=1000000");
        d.run("odds(3, 0)=700000 odds(3, 1)=1000000 falls(0) odds(10, 0)=1000000");
    }
}
