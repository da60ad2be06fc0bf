/** Each promise of the document by itself: ordinary inputs, the edges it names, wrong inputs. */
public final class PromisesTest {
    private static final int BAD = -1, STATE = -2, FULL = -3, NONE = -9, NO = -1000000;
    private static final int MIN = Integer.MIN_VALUE, MAX = Integer.MAX_VALUE;
    private static int wrong = 0;
    private static String promise = "";

    private static void due(String call, long got, long want) {
        if (got != want) {
            wrong++;
            System.out.println("promise " + promise + ": " + call + " answered " + got + ", due is " + want);
        }
    }

    private static void typed(ApologyBricks x, String text) {
        for (int i = 0; i < text.length(); i++) x.type(text.charAt(i));
    }

    private static ApologyBricks told(String text) {
        ApologyBricks x = new ApologyBricks();
        typed(x, text);
        int items = x.chapter();
        if (items < 0) {
            wrong++;
            System.out.println("promise " + promise + ": the test's own text has a fault: " + text);
        }
        return x;
    }

    /** All bricks of all holders have come and are read. */
    private static ApologyBricks read(String text) {
        ApologyBricks x = told(text);
        for (int h = 0; h < 6; h++) x.prompts(h);
        for (int b = 0; b < x.count(2); b++) x.reads(b);
        return x;
    }

    private static void fault(String text, int place) {
        ApologyBricks x = told("w2 2;b1 2 3;");
        typed(x, text);
        due("chapter() of '" + text + "'", x.chapter(), -10 - place);
        due("count(7) behind it", x.count(7), text.length());
        due("count(0) behind it", x.count(0), 2);
        due("count(2) behind it", x.count(2), 1);
        due("brick(0, 2) behind it", x.brick(0, 2), 3);
    }

    private static void fine(String text, int items) {
        ApologyBricks x = told("w2 2;b1 2 3;");
        typed(x, text);
        due("chapter() of '" + text + "'", x.chapter(), items);
        due("count(7) behind it", x.count(7), 0);
    }

    public static void main(String[] args) {
        newObject();
        theText();
        theChapter();
        theFaults();
        bricks();
        places();
        kinOfHolders();
        judges();
        prompting();
        reading();
        writing();
        laying();
        falling();
        undoing();
        nowAndWall();
        letters();
        apologies();
        turns();
        odds();
        hearing();
        marks();
        images();
        counts();
        System.out.println("PromisesTest: " + (wrong == 0 ? "all answers are as due" : wrong + " answers are not as due"));
        if (wrong != 0) System.exit(1);
    }

    private static void newObject() {
        promise = "1";
        ApologyBricks x = new ApologyBricks();
        int[] counts = {4, 3, 0, 0, 0, 0, 0, 0};
        for (int i = 0; i < 8; i++) due("count(" + i + ")", x.count(i), counts[i]);
        for (int h = 0; h < 6; h++) due("kin(" + h + ")", x.kin(h), 0);
        due("place(3, 2)", x.place(3, 2), NONE);
        due("brick(0, 0)", x.brick(0, 0), BAD);
        due("judge(0, 0)", x.judge(0, 0), BAD);
        due("back(0)", x.back(0), STATE);
        due("trace()", x.trace(), 0);
    }

    private static void theText() {
        promise = "2";
        ApologyBricks x = new ApologyBricks();
        due("type(-1)", x.type(-1), BAD);
        due("type(256)", x.type(256), BAD);
        due("type(MIN)", x.type(MIN), BAD);
        due("type(0)", x.type(0), 1);
        due("type(255)", x.type(255), 2);
        for (int i = 3; i <= 120; i++) due("type(32)", x.type(32), i);
        due("type(32) beyond 120", x.type(32), FULL);
        due("type(256) beyond 120", x.type(256), BAD);
        due("count(7)", x.count(7), 120);
        promise = "3";
        due("clear()", x.clear(), 120);
        due("clear()", x.clear(), 0);
        due("type(32)", x.type(32), 1);
    }

    private static void theChapter() {
        promise = "4";
        fine("", 0);
        fine("    ", 0);
        fine("w6 4;", 1);
        fine("  w 1   1 ; k 0 5 ;b2 5 30;j30;s18;  ", 5);
        fine("s0;s0;s0;s0;s0;j0;j0;j0;", 8);
        fine("b0 0 0;b0 0 0;b0 0 0;b0 0 0;b0 0 0;b0 0 0;b0 0 0;b0 0 0;b0 0 0;b0 0 0;", 10);
        fine("k0 1;k0 1;k1 0;", 3);
        ApologyBricks x = told("w6 4;k1 2;j7;s3;b2 4 11;");
        due("count(0)", x.count(0), 6);
        due("count(1)", x.count(1), 4);
        x.prompts(4);
        x.hears(0, 1);
        x.keep(1);
        x.mark(0, 0);
        typed(x, "b0 0 5;");
        due("chapter()", x.chapter(), 1);
        int[] counts = {4, 3, 1, 0, 0, 0, 0, 0};
        for (int i = 0; i < 8; i++) due("count(" + i + ") read anew", x.count(i), counts[i]);
        due("kin(1) read anew", x.kin(1), 0);
        due("brick(0, 3) read anew", x.brick(0, 3), 0);
        due("back(1) read anew", x.back(1), STATE);
        due("trace() read anew", x.trace(), 1);
        ApologyBricks y = told("b0 0 5;");
        y.prompts(0);
        y.keep(0);
        typed(y, "w1 1;w");
        due("chapter() with a fault", y.chapter(), -15);
        due("brick(0, 3) behind a fault", y.brick(0, 3), 1);
        due("count(6) behind a fault", y.count(6), 1);
        due("back(0) behind a fault", y.back(0), 0);
    }

    private static void theFaults() {
        promise = "4, FAULT";
        fault("w", 1);
        fault("w  ", 3);
        fault("w1 1", 4);
        fault("w1 1 ", 5);
        fault("b0 0 0", 6);
        fault(";", 0);
        fault("  ;", 2);
        fault("w1 1;;", 5);
        fault("W1 1;", 0);
        fault("ww1 1;", 0);
        fault("bj0;", 0);
        fault("x", 0);
        fault("5;", 0);
        fault("w0 1;", 1);
        fault("w7 1;", 1);
        fault("w1 0;", 3);
        fault("w1 5;", 3);
        fault("w 1 1 1;", 6);
        fault("w1 1;w1 1;", 5);
        fault("k0 1; w1 1;", 6);
        fault("k6 0;", 1);
        fault("k0 6;", 3);
        fault("k3 3;", 3);
        fault("b3 0 0;", 1);
        fault("b0 6 0;", 3);
        fault("b0 0 31;", 5);
        fault("b0 0 0 0;", 7);
        fault("b0 0;", 4);
        fault("j31;", 1);
        fault("s19;", 1);
        fault("s-1;", 1);
        fault("j100;", 1);
        fault("j00;", 1);
        fault("j01;", 1);
        fault("j4294967296;", 1);
        fault("j1k;", 2);
        fault("j1 !;", 3);
        fault("j\t1;", 1);
        fault("j1" + (char) 233, 2);
        fault("j1;" + (char) 0, 3);
        fault("j1;j2;j3;j4;", 9);
        fault("s1;s1;s1;s1;s1; s1;", 16);
        fault("b0 0 0;b0 0 0;b0 0 0;b0 0 0;b0 0 0;b0 0 0;b0 0 0;b0 0 0;b0 0 0;b0 0 0;b", 70);
        fault("b0 9 99 !", 3);
        fault("wa1 1;", 0);
        fault("wz1 1;", 0);
        fault("j1/;", 2);
        fault("j1:;", 2);
        fault("`", 0);
        fault("{", 0);
        bytesBehindTheText();
        fullTexts();
    }

    /** What was typed and cleared is not read, though it stood behind the text's end. */
    private static void bytesBehindTheText() {
        String[][] rows = {{"bb", "b", "-11"}, {"j100;", "j1", "-12"}, {"j1;j2;", "j1", "-12"}, {"j3;", "", "0"}, {"j ", "j", "-11"}};
        for (String[] row : rows) {
            ApologyBricks x = new ApologyBricks();
            typed(x, row[0]);
            x.clear();
            typed(x, row[1]);
            due("chapter() of '" + row[1] + "' behind '" + row[0] + "'", x.chapter(), Integer.parseInt(row[2]));
        }
    }

    private static void fullTexts() {
        String blanks = " ".repeat(120);
        String[] ends = {"j", "j1", "j 10", "b", ";", " ", "j1;", "!"};
        int[] due = {-130, -130, -130, -130, -129, 0, 1, -129};
        for (int i = 0; i < ends.length; i++) {
            ApologyBricks x = new ApologyBricks();
            typed(x, blanks.substring(ends[i].length()) + ends[i]);
            due("chapter() of 120 bytes that end with '" + ends[i] + "'", x.chapter(), due[i]);
        }
    }

    private static void bricks() {
        promise = "5";
        ApologyBricks x = told("w6 4;b0 0 0;b1 3 17;b2 5 30;");
        int[][] rows = {{0, 0, 0, 0, NONE, 9}, {1, 3, 17, 0, NONE, 18}, {2, 5, 30, 0, NONE, 36}};
        for (int b = 0; b < 3; b++)
            for (int w = 0; w < 6; w++) due("brick(" + b + ", " + w + ")", x.brick(b, w), rows[b][w]);
        for (int w : new int[] {-1, 6, MIN, MAX}) due("brick(0, " + w + ")", x.brick(0, w), BAD);
        for (int b : new int[] {-1, 3, MIN, MAX}) due("brick(" + b + ", 0)", x.brick(b, 0), BAD);
        ApologyBricks y = read("w2 2;b0 0 0;b2 0 0;b2 0 0;b1 0 0;");
        y.lays(0, 0);
        due("brick(0, 3)", y.brick(0, 3), 4);
        due("brick(0, 4)", y.brick(0, 4), 0);
        due("brick(0, 5)", y.brick(0, 5), 0);
        due("brick(1, 5)", y.brick(1, 5), 1);
        due("brick(3, 5)", y.brick(3, 5), 2);
        y.lays(1, 0);
        due("brick(2, 5) of a full column", y.brick(2, 5), 0);
    }

    private static void places() {
        promise = "6";
        ApologyBricks x = read("w2 3;b0 0 0;b2 0 0;b1 0 0;");
        x.lays(0, 0);
        x.lays(1, 0);
        x.lays(2, 1);
        due("place(0, 0)", x.place(0, 0), 0);
        due("place(0, 1)", x.place(0, 1), 1);
        due("place(0, 2)", x.place(0, 2), NONE);
        due("place(1, 0)", x.place(1, 0), 2);
        due("place(1, 1)", x.place(1, 1), NONE);
        x.falls(0);
        due("place(0, 1) when it fell", x.place(0, 1), NONE);
        for (int v : new int[] {-1, 2, MIN, MAX}) due("place(" + v + ", 0)", x.place(v, 0), BAD);
        for (int v : new int[] {-1, 3, MIN, MAX}) due("place(0, " + v + ")", x.place(0, v), BAD);
    }

    private static void kinOfHolders() {
        promise = "7";
        ApologyBricks x = told("k0 1;k1 2;k5 0;");
        int[] kin = {34, 5, 2, 0, 0, 1};
        for (int h = 0; h < 6; h++) due("kin(" + h + ")", x.kin(h), kin[h]);
        for (int h : new int[] {-1, 6, MIN, MAX}) due("kin(" + h + ")", x.kin(h), BAD);
    }

    private static void judges() {
        promise = "8";
        ApologyBricks x = told("j0;j15;j30;b0 0 0;b0 0 14;b0 0 15;b0 0 30;");
        int[][] rows = {{0, 15}, {15, 12}, {30, 8}};
        for (int j = 0; j < 3; j++)
            for (int w = 0; w < 2; w++) due("judge(" + j + ", " + w + ")", x.judge(j, w), rows[j][w]);
        for (int j : new int[] {-1, 3, MIN, MAX}) due("judge(" + j + ", 0)", x.judge(j, 0), BAD);
        for (int w : new int[] {-1, 2, MIN, MAX}) due("judge(0, " + w + ")", x.judge(0, w), BAD);
        x.prompts(0);
        x.reads(0);
        x.writes(0, 20);
        due("judge(1, 1) when a letter was written anew", x.judge(1, 1), 13);
    }

    private static void prompting() {
        promise = "9";
        ApologyBricks x = told("k0 1;k1 2;b0 0 0;b0 1 0;b0 2 0;b0 5 0;");
        for (int h : new int[] {-1, 6, MIN, MAX}) due("prompts(" + h + ")", x.prompts(h), BAD);
        due("count(6)", x.count(6), 0);
        due("prompts(4)", x.prompts(4), 0);
        due("count(6)", x.count(6), 1);
        due("prompts(0), whose kin's kin has one", x.prompts(0), 2);
        due("brick(2, 3)", x.brick(2, 3), 0);
        due("prompts(2)", x.prompts(2), 1);
        due("prompts(1)", x.prompts(1), 0);
        due("prompts(5)", x.prompts(5), 1);
        due("now(1)", x.now(1), 4);
    }

    private static void reading() {
        promise = "10";
        ApologyBricks x = told("j10;j20;b0 0 9;b0 0 10;b0 0 20;b0 1 30;");
        due("reads(-1)", x.reads(-1), BAD);
        due("reads(4)", x.reads(4), BAD);
        due("reads(0) of one away", x.reads(0), STATE);
        x.prompts(0);
        due("reads(0)", x.reads(0), 3);
        due("reads(1), one of two", x.reads(1), 3);
        due("reads(2)", x.reads(2), 2);
        due("reads(0) of one refused", x.reads(0), STATE);
        due("reads(2) of one held", x.reads(2), STATE);
        due("reads(3) of one away", x.reads(3), STATE);
        due("count(6)", x.count(6), 4);
        ApologyBricks y = told("b0 0 0;");
        y.prompts(0);
        due("reads(0) without judges", y.reads(0), 2);
        ApologyBricks z = told("j0;j0;j30;b0 0 0;");
        z.prompts(0);
        due("reads(0), two of three", z.reads(0), 2);
    }

    private static void writing() {
        promise = "11";
        ApologyBricks x = told("j10;b0 0 9;b0 0 10;");
        due("writes(0, 1) of one away", x.writes(0, 1), STATE);
        x.prompts(0);
        due("writes(0, 1) of one come", x.writes(0, 1), STATE);
        x.reads(0);
        x.reads(1);
        due("writes(1, 1) of one held", x.writes(1, 1), STATE);
        due("writes(2, 1)", x.writes(2, 1), BAD);
        due("writes(-1, 1)", x.writes(-1, 1), BAD);
        due("writes(0, -1)", x.writes(0, -1), BAD);
        due("writes(0, 31)", x.writes(0, 31), BAD);
        due("writes(1, 31)", x.writes(1, 31), BAD);
        due("writes(0, 9), the same", x.writes(0, 9), 9);
        due("brick(0, 3)", x.brick(0, 3), 1);
        x.reads(0);
        due("writes(0, 30)", x.writes(0, 30), 9);
        due("brick(0, 2)", x.brick(0, 2), 30);
        due("reads(0)", x.reads(0), 2);
        ApologyBricks y = told("j10;b0 0 9;");
        y.prompts(0);
        y.reads(0);
        due("writes(0, 0)", y.writes(0, 0), 9);
        due("brick(0, 2)", y.brick(0, 2), 0);
    }

    private static void laying() {
        promise = "12";
        ApologyBricks x = read("w2 2;j5;b0 0 9;b2 0 9;b1 0 9;b0 0 9;b0 0 0;b2 0 9;");
        due("lays(6, 0)", x.lays(6, 0), BAD);
        due("lays(-1, 0)", x.lays(-1, 0), BAD);
        due("lays(0, 2)", x.lays(0, 2), BAD);
        due("lays(0, -1)", x.lays(0, -1), BAD);
        due("lays(4, 0) of one refused", x.lays(4, 0), STATE);
        due("lays(0, 1) of another shape", x.lays(0, 1), STATE);
        due("lays(0, 0)", x.lays(0, 0), 1);
        due("lays(0, 0) of one laid", x.lays(0, 0), STATE);
        due("lays(3, 0) of another shape", x.lays(3, 0), STATE);
        due("lays(1, 0)", x.lays(1, 0), 2);
        due("lays(5, 0) of a full column", x.lays(5, 0), STATE);
        due("lays(2, 1)", x.lays(2, 1), 1);
        due("lays(3, 1)", x.lays(3, 1), 2);
        due("now(4)", x.now(4), 4);
    }

    private static void falling() {
        promise = "13";
        ApologyBricks x = read("w2 2;b2 0 9;b0 0 9;b1 0 9;");
        due("falls(0)", x.falls(0), STATE);
        due("falls(-1)", x.falls(-1), BAD);
        due("falls(2)", x.falls(2), BAD);
        x.lays(1, 0);
        x.lays(0, 0);
        due("falls(1)", x.falls(1), STATE);
        due("falls(0)", x.falls(0), 0);
        due("brick(0, 3)", x.brick(0, 3), 2);
        due("brick(0, 4)", x.brick(0, 4), NONE);
        due("falls(0)", x.falls(0), 1);
        due("falls(0)", x.falls(0), STATE);
    }

    private static void undoing() {
        promise = "14";
        ApologyBricks x = told("w2 2;j5;b0 0 9;b1 0 2;");
        due("undo()", x.undo(), STATE);
        x.prompts(0);
        x.reads(0);
        x.reads(1);
        x.writes(1, 7);
        x.lays(0, 0);
        x.falls(0);
        due("count(6)", x.count(6), 6);
        due("undo() of fallen", x.undo(), 5);
        due("place(0, 0)", x.place(0, 0), 0);
        due("undo() of laid", x.undo(), 4);
        due("brick(0, 3)", x.brick(0, 3), 2);
        due("place(0, 0)", x.place(0, 0), NONE);
        due("undo() of written", x.undo(), 3);
        due("brick(1, 2)", x.brick(1, 2), 2);
        due("brick(1, 3)", x.brick(1, 3), 3);
        due("undo() of read", x.undo(), 2);
        due("brick(1, 3)", x.brick(1, 3), 1);
        due("undo() of read", x.undo(), 1);
        due("undo() of prompted", x.undo(), 0);
        due("now(0)", x.now(0), 2);
        due("undo()", x.undo(), STATE);
        for (int i = 1; i <= 12; i++) {
            x.prompts(i == 1 ? 0 : 4);
            due("count(6) when " + i + " were done", x.count(6), Math.min(i, 10));
        }
        x.hears(0, 1);
        for (int i = 9; i >= 0; i--) due("undo()", x.undo(), i);
        due("undo()", x.undo(), STATE);
        due("now(1), the oldest is lost", x.now(1), 2);
        due("count(5), what was heard stays", x.count(5), 1);
        manyUndone();
    }

    /** Thirteen that all change something: the last ten come back one by one. */
    private static void manyUndone() {
        ApologyBricks x = told("j30;b0 0 0;");
        x.prompts(0);
        for (int i = 1; i <= 6; i++) {
            x.reads(0);
            x.writes(0, i);
        }
        due("count(6)", x.count(6), 10);
        x.keep(0);
        for (int times = 0; times < 2; times++) {
            for (int i = 9; i >= 0; i--) {
                due("undo()", x.undo(), i);
                due("brick(0, 2) when " + i + " may be undone", x.brick(0, 2), 1 + i / 2);
                due("brick(0, 3) when " + i + " may be undone", x.brick(0, 3), i % 2 == 0 ? 1 : 3);
            }
            due("undo()", x.undo(), STATE);
            x.back(0);
            due("count(6)", x.count(6), 10);
        }
    }

    private static void nowAndWall() {
        promise = "15, 16";
        ApologyBricks x = told("w3 3;j10;b0 0 10;b2 0 10;b1 0 10;b1 0 10;b2 1 10;b0 2 0;");
        for (int w : new int[] {-1, 6, MIN, MAX}) due("now(" + w + ")", x.now(w), BAD);
        for (int v : new int[] {-1, 3, MIN, MAX}) due("wall(" + v + ")", x.wall(v), BAD);
        x.prompts(0);
        x.prompts(2);
        for (int b = 0; b < 3; b++) x.reads(b);
        x.reads(5);
        int[] now = {1, 1, 3, 1, 0, 3};
        for (int w = 0; w < 6; w++) due("now(" + w + ")", x.now(w), now[w]);
        due("wall(0)", x.wall(0), 3);
        due("wall(1)", x.wall(1), 0);
        due("wall(2)", x.wall(2), 0);
        x.lays(2, 1);
        due("now(4)", x.now(4), 1);
        due("now(5)", x.now(5), 2);
        due("wall(0)", x.wall(0), 2);
        due("wall(1), as high as now", x.wall(1), 1);
        ApologyBricks y = read("w2 2;b0 0 0;b1 0 0;");
        due("now(5): most bricks, not the highest first column", y.now(5), 2);
        due("wall(0)", y.wall(0), 1);
        due("wall(1)", y.wall(1), 1);
        ApologyBricks z = read("w4 1;b0 0 0;");
        due("wall(0): of equals the greatest from 0 on", z.wall(0), 1);
        due("wall(3)", z.wall(3), 0);
        ApologyBricks none = read("w2 2;b2 0 0;");
        due("now(5) with none that fits", none.now(5), 0);
        ApologyBricks full = read("w1 2;b0 0 0;b2 0 0;b1 0 0;");
        due("now(5)", full.now(5), 2);
        full.lays(0, 0);
        full.lays(1, 0);
        due("now(5) of a full wall", full.now(5), 0);
        due("wall(0) of a full wall", full.wall(0), 2);
    }

    private static void letters() {
        promise = "17";
        ApologyBricks x = told("w3 2;k3 4;j10;b0 5 10;b1 3 10;b2 4 10;b0 2 0;");
        for (int n : new int[] {0, -1, 25, MIN, MAX}) due("letters(" + n + ")", x.letters(n), BAD);
        due("letters(1)", x.letters(1), 4);
        due("letters(2)", x.letters(2), 8);
        due("letters(3)", x.letters(3), 12);
        due("letters(4), kin needn't both", x.letters(4), 44);
        due("letters(5)", x.letters(5), NONE);
        due("letters(24)", x.letters(24), NONE);
        due("now(0), nothing is changed", x.now(0), 4);
        x.prompts(2);
        due("letters(1), what has come counts", x.letters(1), 0);
        x.reads(3);
        due("letters(1), refused ones don't", x.letters(1), 8);
        due("letters(4)", x.letters(4), NONE);
        x.prompts(5);
        x.reads(0);
        due("letters(1), held ones do", x.letters(1), 0);
        x.lays(0, 0);
        due("letters(1), laid ones don't", x.letters(1), 8);
        ApologyBricks y = told("w6 1;b0 0 0;b0 1 0;b1 2 0;b1 3 0;b2 4 0;b2 5 0;");
        int[] sets = {1, 3, 7, 15, 31, 63};
        for (int n = 1; n <= 6; n++) due("letters(" + n + ")", y.letters(n), sets[n - 1]);
        due("letters(7)", y.letters(7), NONE);
    }

    private static void apologies() {
        promise = "18";
        ApologyBricks x = told("s12;s7;s18;s9;");
        for (int n : new int[] {-31, 31, MIN, MAX}) due("apology(" + n + ", -1)", x.apology(n, -1), BAD);
        for (int k : new int[] {-2, 5, MIN, MAX}) due("apology(0, " + k + ")", x.apology(0, k), BAD);
        due("apology(0, -1)", x.apology(0, -1), 0);
        due("apology(0, 0)", x.apology(0, 0), NONE);
        due("apology(9, -1)", x.apology(9, -1), 1);
        due("apology(9, 0)", x.apology(9, 0), 2);
        due("apology(9, 1)", x.apology(9, 1), NONE);
        int[] six = {0, 3, 0};
        due("apology(6, -1), none twice running", x.apology(6, -1), 3);
        for (int k = 0; k < 3; k++) due("apology(6, " + k + ")", x.apology(6, k), six[k]);
        due("apology(30, -1)", x.apology(30, -1), 5);
        int[] thirty = {2, 0, 2, 3, 2};
        for (int k = 0; k < 5; k++) due("apology(30, " + k + ")", x.apology(30, k), thirty[k]);
        due("apology(-30, -1)", x.apology(-30, -1), NONE);
        due("apology(-30, 0)", x.apology(-30, 0), NONE);
        ApologyBricks y = told("s14;s14;");
        due("apology(10, -1), equal worths of two sorts", y.apology(10, -1), 2);
        due("apology(10, 0)", y.apology(10, 0), 0);
        due("apology(10, 1)", y.apology(10, 1), 1);
        due("apology(25, 4)", y.apology(25, 4), 0);
        due("apology(30, -1)", y.apology(30, -1), NONE);
        ApologyBricks z = told("s0;s3;");
        due("apology(-9, 0)", z.apology(-9, 0), 0);
        due("apology(-30, -1)", z.apology(-30, -1), 4);
        ApologyBricks none = new ApologyBricks();
        due("apology(0, -1) without sorts", none.apology(0, -1), 0);
        due("apology(1, -1) without sorts", none.apology(1, -1), NONE);
    }

    private static void turns() {
        promise = "19";
        ApologyBricks x = told("j10;j20;j30;b0 0 5;b0 0 15;b0 0 25;b0 0 30;");
        int[][] turn = {{0, 0, 1, 0}, {0, 1, 1, 0}, {0, 1, 0, 0}};
        for (int j = 0; j < 3; j++)
            for (int b = 0; b < 4; b++) due("turn(" + j + ", " + b + ")", x.turn(j, b), turn[j][b]);
        due("turn(3, 0)", x.turn(3, 0), BAD);
        due("turn(-1, 0)", x.turn(-1, 0), BAD);
        due("turn(0, 4)", x.turn(0, 4), BAD);
        due("turn(0, -1)", x.turn(0, -1), BAD);
        due("brick(2, 3), nothing is changed", x.brick(2, 3), 0);
        ApologyBricks y = told("b0 0 0;");
        due("turn(0, 0) without judges", y.turn(0, 0), BAD);
        ApologyBricks z = told("j0;j0;b0 0 0;");
        due("turn(0, 0), one of two is not more", z.turn(0, 0), 1);
    }

    private static void odds() {
        promise = "20";
        ApologyBricks x = read("w3 2;b0 0 0;b1 0 0;b2 0 0;b2 0 0;");
        for (int v : new int[] {-1, 11, MIN, MAX}) {
            due("odds(" + v + ", 0)", x.odds(v, 0), BAD);
            due("odds(0, " + v + ")", x.odds(0, v), BAD);
        }
        due("odds(10, 0) of none laid", x.odds(10, 0), 1000000);
        x.lays(0, 0);
        x.lays(1, 1);
        x.lays(2, 2);
        due("odds(3, 0)", x.odds(3, 0), 343000);
        due("odds(3, 1)", x.odds(3, 1), 784000);
        due("odds(3, 2)", x.odds(3, 2), 973000);
        due("odds(3, 3)", x.odds(3, 3), 1000000);
        due("odds(3, 10)", x.odds(3, 10), 1000000);
        due("odds(0, 0)", x.odds(0, 0), 1000000);
        due("odds(10, 2)", x.odds(10, 2), 0);
        due("odds(10, 3)", x.odds(10, 3), 1000000);
        ApologyBricks y = read("w6 2;b0 0 0;b0 0 0;b1 0 0;b1 0 0;b2 0 0;b2 0 0;b0 0 0;b0 0 0;b1 0 0;b2 0 0;");
        int[][] lays = {{0, 0}, {1, 3}, {2, 1}, {3, 4}, {4, 2}, {5, 5}, {6, 1}, {7, 4}, {8, 2}, {9, 0}};
        for (int[] l : lays) due("lays(" + l[0] + ", " + l[1] + ")", y.lays(l[0], l[1]) > 0 ? 1 : 0, 1);
        due("odds(1, 0) of ten, cut", y.odds(1, 0), 348678);
        due("odds(5, 4) of ten, cut", y.odds(5, 4), 376953);
        due("odds(9, 9) of ten, cut", y.odds(9, 9), 651321);
        due("odds(9, 0) of ten, cut", y.odds(9, 0), 0);
        due("odds(7, 10) of ten", y.odds(7, 10), 1000000);
    }

    private static void hearing() {
        promise = "21 .. 24";
        ApologyBricks x = told("j10;j20;j15;");
        for (int j : new int[] {-1, 3, MIN, MAX}) due("hears(" + j + ", 0)", x.hears(j, 0), BAD);
        for (int v : new int[] {-1, 2, MIN, MAX}) due("hears(0, " + v + ")", x.hears(0, v), BAD);
        for (int v : new int[] {-1, 3, MIN, MAX}) due("worths(" + v + ")", x.worths(v), BAD);
        due("worths(0)", x.worths(0), 31);
        due("ask(), 16 beside 15", x.ask(), 2);
        due("hears(1, 0)", x.hears(1, 0), 1);
        due("worths(0)", x.worths(0), 20);
        due("worths(2)", x.worths(2), 19);
        due("ask(), 10 beside 10", x.ask(), 0);
        due("hears(0, 1)", x.hears(0, 1), 2);
        due("worths(1)", x.worths(1), 10);
        due("ask()", x.ask(), 2);
        due("hears(2, 1)", x.hears(2, 1), 3);
        due("worths(1)", x.worths(1), 15);
        due("ask(), none parts them", x.ask(), NONE);
        due("hears(2, 0)", x.hears(2, 0), 4);
        due("worths(0), they gainsay one another", x.worths(0), 0);
        due("worths(1)", x.worths(1), NONE);
        due("worths(2)", x.worths(2), NONE);
        due("ask(), fewer than 2", x.ask(), NONE);
        due("hears(0, 1), a fifth", x.hears(0, 1), FULL);
        due("hears(3, 1), a fifth", x.hears(3, 1), BAD);
        due("count(5)", x.count(5), 4);
        due("forget()", x.forget(), 4);
        due("forget()", x.forget(), 0);
        due("worths(0)", x.worths(0), 31);
        ApologyBricks y = told("j25;j12;j12;");
        due("ask(), of several the lowest", y.ask(), 1);
        ApologyBricks z = told("j16;j15;");
        due("ask(), equal greater parts", z.ask(), 0);
        ApologyBricks edges = told("j30;j1;");
        edges.hears(0, 1);
        for (int w = 0; w < 3; w++) due("worths(" + w + ") of the greatest", edges.worths(w), w == 0 ? 1 : 30);
        edges.forget();
        edges.hears(1, 0);
        for (int w = 0; w < 3; w++) due("worths(" + w + ") of the least", edges.worths(w), w == 0 ? 1 : 0);
        due("ask(), one alone", edges.ask(), NONE);
        ApologyBricks none = new ApologyBricks();
        due("ask() without judges", none.ask(), NONE);
        due("hears(0, 0) without judges", none.hears(0, 0), BAD);
    }

    private static void marks() {
        promise = "25, 29";
        ApologyBricks x = read("w2 2;b0 4 9;b2 3 7;");
        x.lays(0, 0);
        int[] marks = {7, 9, 6, 18, 7, 10};
        long[] comes = {1, 11, 101, 1011, 10101, 100001};
        long sum = 0;
        for (int kind = 0; kind < 6; kind++) {
            due("mark(" + kind + ", 1)", x.mark(kind, 1), marks[kind]);
            sum += comes[kind];
            due("trace()", x.trace(), sum);
        }
        for (int v : new int[] {-1, 6, MIN, MAX}) due("mark(" + v + ", 0)", x.mark(v, 0), NO);
        for (int v : new int[] {-1, 2, MIN, MAX}) due("mark(0, " + v + ")", x.mark(0, v), NO);
        due("trace()", x.trace(), sum);
        x.undo();
        due("trace() is not undone", x.trace(), sum);
        due("mark(2, 1)", x.mark(2, 1), 7);
        ApologyBricks y = read("w1 1;b0 0 0;b0 0 0;");
        y.lays(0, 0);
        due("mark(2, 0), below 0", y.mark(2, 0), -1);
        due("mark(4, 1)", y.mark(4, 1), 0);
    }

    private static void images() {
        promise = "26, 27";
        ApologyBricks x = read("w2 2;j5;b0 0 9;b2 0 9;b1 0 2;");
        for (int i : new int[] {-1, 2, MIN, MAX}) {
            due("keep(" + i + ")", x.keep(i), BAD);
            due("back(" + i + ")", x.back(i), BAD);
        }
        due("back(0)", x.back(0), STATE);
        x.lays(0, 0);
        due("keep(0)", x.keep(0), 1);
        due("back(1)", x.back(1), STATE);
        int undone = x.count(6);
        x.lays(1, 0);
        x.writes(2, 8);
        due("keep(1)", x.keep(1), 2);
        x.hears(0, 1);
        due("back(0)", x.back(0), 1);
        due("brick(1, 3)", x.brick(1, 3), 2);
        due("brick(2, 2)", x.brick(2, 2), 2);
        due("brick(2, 3)", x.brick(2, 3), 3);
        due("count(6)", x.count(6), undone);
        due("count(5), what was heard is not in it", x.count(5), 1);
        due("undo()", x.undo(), undone - 1);
        due("now(4)", x.now(4), 0);
        due("back(1)", x.back(1), 2);
        due("place(0, 1)", x.place(0, 1), 1);
        due("brick(2, 2)", x.brick(2, 2), 8);
        x.falls(0);
        x.falls(0);
        due("back(0) once more", x.back(0), 1);
        due("undo()", x.undo(), undone - 1);
        due("brick(0, 3)", x.brick(0, 3), 2);
        due("keep(0) anew", x.keep(0), 0);
        due("back(0)", x.back(0), 0);
        ApologyBricks y = read("w2 2;b1 0 0;b0 0 0;");
        y.lays(0, 1);
        y.lays(1, 1);
        y.keep(0);
        y.falls(1);
        due("lays(1, 0), in another course", y.lays(1, 0), 1);
        y.back(0);
        due("place(1, 1), where it was", y.place(1, 1), 1);
        due("place(0, 0)", y.place(0, 0), NONE);
        due("falls(1)", y.falls(1), 1);
    }

    private static void counts() {
        promise = "28";
        ApologyBricks x = told("w5 2;j1;j2;s1;s2;s3;b0 0 0;b0 0 0;b0 0 0;b0 0 0;");
        x.hears(0, 1);
        x.prompts(1);
        x.prompts(2);
        typed(x, "abcdefg");
        int[] counts = {5, 2, 4, 2, 3, 1, 2, 7};
        for (int i = 0; i < 8; i++) due("count(" + i + ")", x.count(i), counts[i]);
        for (int w : new int[] {-1, 8, MIN, MAX}) due("count(" + w + ")", x.count(w), BAD);
    }
}
