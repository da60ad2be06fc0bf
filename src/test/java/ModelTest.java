import java.util.Random;

/** Runs of 512 calls, drawn by fixed seeds: program and model must answer alike. */
public final class ModelTest {
    private static final int RUNS = 1500;
    private static final int CALLS = 512;
    private static final int[] FAR = {Integer.MIN_VALUE, Integer.MAX_VALUE, -1, -2, 256, 31, 32, 99, -31, 1 << 20};
    private static final String[] CORRUPTIONS =
        {"b", "w", ";", "0", "00", "100", "7", " ", "x", "ab", "!", "9", "\u00e9", "k", "j", "s", "31", "\u0000"};

    private final Random random;
    private final int run;
    private final ApologyBricks program = new ApologyBricks();
    private final Model model = new Model();
    private final StringBuilder calls = new StringBuilder();
    private int left = CALLS;
    private int wrong = 0;

    private ModelTest(int run) {
        this.run = run;
        this.random = new Random(7919L * run + 13);
    }

    public static void main(String[] args) {
        int runs = args.length > 0 ? Integer.parseInt(args[0]) : RUNS;
        int wrong = 0;
        for (int run = 0; run < runs && wrong < 5; run++) {
            wrong += new ModelTest(run).go();
        }
        System.out.println("ModelTest: " + (wrong == 0 ? "all answers are alike" : wrong + " runs differ"));
        if (wrong != 0) System.exit(1);
    }

    private int go() {
        while (left > 0 && wrong == 0) {
            if (random.nextInt(90) == 0 || left == CALLS && random.nextInt(8) != 0) tell();
            else if (random.nextInt(120) == 0) undoAll();
            else one(random.nextInt(40));
        }
        return wrong;
    }

    private void due(String call, long got, long want) {
        left--;
        calls.append(' ').append(call);
        if (got != want) {
            wrong = 1;
            System.out.println("run " + run + ":" + calls + " answered " + got + ", the model " + want);
        }
    }

    private int below(int n) { return random.nextInt(n); }

    /** Mostly within the bound, now and then beside it or far off. */
    private int about(int n) {
        int kind = below(30);
        if (kind == 0) return FAR[below(FAR.length)];
        if (kind == 1) return n;
        if (kind == 2) return -1;
        return below(Math.max(1, n));
    }

    private void tell() {
        String text = below(4) == 0 ? anyText() : plainText();
        if (below(3) == 0) {
            int at = below(text.length() + 1);
            text = text.substring(0, at) + CORRUPTIONS[below(CORRUPTIONS.length)]
                + text.substring(below(2) == 0 ? at : Math.min(text.length(), at + 1));
        }
        for (int i = 0; i < text.length() && left > 0 && wrong == 0; i++) {
            int c = text.charAt(i);
            due("type(" + c + ")", program.type(c), model.type(c));
        }
        if (left > 0 && wrong == 0) due("chapter()", program.chapter(), model.chapter());
        if (left > 0 && wrong == 0 && below(2) == 0) due("clear()", program.clear(), model.clear());
    }

    /** Down to the last scene that is known, and each of them looked at. */
    private void undoAll() {
        for (int i = 0; i < 11 && left > 2 && wrong == 0; i++) {
            due("undo()", program.undo(), model.undo());
            int b = about(model.count(2)), what = about(6);
            due("brick(" + b + ", " + what + ")", program.brick(b, what), model.brick(b, what));
        }
    }

    private String plainText() {
        StringBuilder text = new StringBuilder();
        if (below(4) != 0) text.append("w").append(1 + below(6)).append(' ').append(1 + below(4)).append(';');
        for (int i = below(4); i > 0; i--) {
            int a = below(6);
            text.append('k').append(a).append(' ').append((a + 1 + below(5)) % 6).append(';');
        }
        for (int i = below(4); i > 0; i--) text.append('j').append(below(31)).append(';');
        for (int i = below(6); i > 0; i--) text.append('s').append(below(19)).append(';');
        int holders = 1 + below(6);
        for (int i = below(5) == 0 ? below(11) : 10; i > 0; i--) {
            String item = "b" + below(3) + " " + below(holders) + " " + below(31) + ";";
            if (text.length() + item.length() <= 120) text.append(item);
        }
        return text.toString();
    }

    private String anyText() {
        StringBuilder text = new StringBuilder();
        int items = below(16);
        for (int i = 0; i < items; i++) {
            text.append(blanks()).append("wkbjs".charAt(i == 0 ? below(5) : below(20) == 0 ? 0 : 1 + below(4)));
            int last = text.charAt(text.length() - 1);
            int numbers = last == 'b' ? 3 : last == 'w' || last == 'k' ? 2 : 1;
            if (below(40) == 0) numbers += below(3) - 1;
            for (int n = 0; n < numbers; n++) {
                text.append(blanks()).append(n > 0 ? " " : "").append(below(60) == 0 ? below(130) : below(n == 0 ? 3 : 5));
            }
            text.append(blanks()).append(below(50) == 0 ? "" : ";");
        }
        return text.append(blanks()).toString();
    }

    private String blanks() { return "   ".substring(0, below(6) == 0 ? 1 + below(3) : 0); }

    private void one(int which) {
        int bricks = model.count(2), judges = model.count(3), columns = model.count(0);
        int b = about(bricks), x = about(columns), h = about(6), j = about(judges);
        if (which < 3) {
            due("prompts(" + h + ")", program.prompts(h), model.prompts(h));
        } else if (which < 8) {
            due("reads(" + b + ")", program.reads(b), model.reads(b));
        } else if (which < 10) {
            int worth = about(31);
            due("writes(" + b + ", " + worth + ")", program.writes(b, worth), model.writes(b, worth));
        } else if (which < 17) {
            if (below(3) != 0) b = readyBrick(b, x);
            due("lays(" + b + ", " + x + ")", program.lays(b, x), model.lays(b, x));
        } else if (which < 18) {
            due("falls(" + x + ")", program.falls(x), model.falls(x));
        } else if (which < 20) {
            due("undo()", program.undo(), model.undo());
        } else {
            ask(which, b, x, h, j);
        }
    }

    /** A held brick whose shape is asked for, so that walls do come up. */
    private int readyBrick(int otherwise, int x) {
        for (int b = 0; b < model.count(2); b++) {
            int fits = model.brick(b, 5);
            if (model.brick(b, 3) == 2 && x >= 0 && x < 6 && (fits >> x & 1) == 1) return b;
        }
        return otherwise;
    }

    private void ask(int which, int b, int x, int h, int j) {
        int what = about(6), i = about(2), n;
        switch (which) {
            case 20: due("brick(" + b + ", " + what + ")", program.brick(b, what), model.brick(b, what)); break;
            case 21: n = about(model.count(1));
                due("place(" + x + ", " + n + ")", program.place(x, n), model.place(x, n)); break;
            case 22: due("kin(" + h + ")", program.kin(h), model.kin(h)); break;
            case 23: due("judge(" + j + ", " + i + ")", program.judge(j, i), model.judge(j, i)); break;
            case 24: due("now(" + what + ")", program.now(what), model.now(what)); break;
            case 25: due("now(5)", program.now(5), model.now(5)); break;
            case 26: due("wall(" + x + ")", program.wall(x), model.wall(x)); break;
            case 27: case 28: n = below(6) == 0 ? about(26) : 1 + below(10);
                due("letters(" + n + ")", program.letters(n), model.letters(n)); break;
            case 29: n = below(66) - 33;
                int k = below(8) - 2;
                due("apology(" + n + ", " + k + ")", program.apology(n, k), model.apology(n, k)); break;
            case 30: due("turn(" + j + ", " + b + ")", program.turn(j, b), model.turn(j, b)); break;
            case 31: n = about(11);
                int at = about(below(2) == 0 ? 11 : 3);
                due("odds(" + n + ", " + at + ")", program.odds(n, at), model.odds(n, at)); break;
            case 32: due("hears(" + j + ", " + i + ")", program.hears(j, i), model.hears(j, i)); break;
            case 33: if (below(3) == 0) due("forget()", program.forget(), model.forget()); break;
            case 34: n = about(3);
                due("worths(" + n + ")", program.worths(n), model.worths(n)); break;
            case 35: due("ask()", program.ask(), model.ask()); break;
            case 36: due("mark(" + what + ", " + b + ")", program.mark(what, b), model.mark(what, b)); break;
            case 37: due("keep(" + i + ")", program.keep(i), model.keep(i)); break;
            case 38: if (below(2) == 0) due("back(" + i + ")", program.back(i), model.back(i)); break;
            default: n = about(8);
                due("count(" + n + ")", program.count(n), model.count(n));
                if (left > 0 && wrong == 0) due("trace()", program.trace(), model.trace());
        }
    }
}
