import java.util.Arrays;

/** A cathedral's wall that is put back out of stolen bricks, each with its apology. */
public final class ApologyBricks {
    public static final int BAD = -1, STATE = -2, FULL = -3, NONE = -9;
    public static final int NO = -1000000;

    private static final int MOST_COLUMNS = 6;
    private static final int MOST_COURSES = 4;
    private static final int FIRST_COLUMNS = 4;
    private static final int FIRST_COURSES = 3;
    private static final int SHAPES = 3;
    private static final int HOLDERS = 6;
    private static final int MOST_BRICKS = 10;
    private static final int MOST_JUDGES = 3;
    private static final int MOST_SORTS = 5;
    private static final int MOST_WORTH = 30;
    private static final int SORT_ZERO = 9;
    private static final int MOST_SORT_TOLD = 18;
    private static final int MOST_BYTES = 120;
    private static final int MOST_WORDS = 5;
    private static final int MOST_HEARD = 4;
    private static final int MOST_UNDONE = 10;
    private static final int IMAGES = 2;
    private static final int TENTHS = 10;

    private static final int AWAY = 0;
    private static final int COME = 1;
    private static final int HELD = 2;
    private static final int REFUSED = 3;
    private static final int LAID = 4;

    private static final int END = 0;
    private static final int LETTERS = 1;
    private static final int NUMBER = 2;
    private static final int STOP = 3;
    private static final int WRONG = 4;

    // Ten bricks of three shapes leave at most (3 + 1) * (3 + 1) * (4 + 1) smaller stocks.
    private static final int STOCKS = 80;

    // Ten bricks of ten tenths each make 10 to the 10th chances: so many are a millionth.
    private static final long A_MILLIONTH = 10000L;

    private final Reader reader = new Reader();
    private Told told = new Told();
    private Told draft = new Told();
    private final Story story = new Story();
    private final Story[] images = new Story[IMAGES];
    private final boolean[] kept = new boolean[IMAGES];
    private final Hearing hearing = new Hearing();
    private final Plan plan = new Plan();
    private final Wording wording = new Wording();
    private final long[] chances = new long[MOST_BRICKS + 1];
    private long asked = 0L;

    public ApologyBricks() {
        for (int i = 0; i < IMAGES; i++) {
            images[i] = new Story();
        }
    }

    // ---- the chapter

    public int type(int c) {
        if (c < 0 || c > 255) {
            return BAD;
        }
        if (reader.length >= MOST_BYTES) {
            return FULL;
        }
        reader.add(c);
        return reader.length;
    }

    public int clear() {
        int had = reader.length;
        reader.length = 0;
        return had;
    }

    public int chapter() {
        // A draft takes the text, so that a fault late in it leaves all as it was.
        int items = reader.read(draft);
        if (items < 0) {
            return items;
        }
        Told older = told;
        told = draft;
        draft = older;
        reader.length = 0;
        story.begin(told);
        hearing.heard = 0;
        for (int i = 0; i < IMAGES; i++) {
            kept[i] = false;
        }
        return items;
    }

    public int brick(int b, int what) {
        if (noBrick(b)) {
            return BAD;
        }
        switch (what) {
            case 0:
                return told.shape[b];
            case 1:
                return told.holder[b];
            case 2:
                return story.scene.worth[b];
            case 3:
                return story.scene.what[b];
            case 4:
                return story.scene.what[b] == LAID ? story.scene.column[b] : NONE;
            case 5:
                return fits(b);
            default:
                return BAD;
        }
    }

    public int place(int x, int y) {
        if (noColumn(x) || y < 0 || y >= told.courses) {
            return BAD;
        }
        return story.scene.brickAt(x, y);
    }

    public int kin(int h) {
        return noHolder(h) ? BAD : told.kin[h];
    }

    public int judge(int j, int what) {
        if (noJudge(j) || what < 0 || what > 1) {
            return BAD;
        }
        return what == 0 ? told.ear[j] : wouldHold(j);
    }

    // ---- what is done

    public int prompts(int h) {
        if (noHolder(h)) {
            return BAD;
        }
        story.remember();
        int reach = told.reach(1 << h);
        int come = 0;
        for (int b = 0; b < told.bricks; b++) {
            if (story.scene.what[b] == AWAY && hasBit(reach, told.holder[b])) {
                story.scene.what[b] = COME;
                come++;
            }
        }
        return come;
    }

    public int reads(int b) {
        if (noBrick(b)) {
            return BAD;
        }
        if (story.scene.what[b] != COME) {
            return STATE;
        }
        story.remember();
        boolean held = told.holds(told.judgesFor(story.scene.worth[b]));
        story.scene.what[b] = held ? HELD : REFUSED;
        return story.scene.what[b];
    }

    public int writes(int b, int worth) {
        if (noBrick(b) || worth < 0 || worth > MOST_WORTH) {
            return BAD;
        }
        if (story.scene.what[b] != REFUSED) {
            return STATE;
        }
        story.remember();
        int before = story.scene.worth[b];
        story.scene.worth[b] = worth;
        story.scene.what[b] = COME;
        return before;
    }

    public int lays(int b, int x) {
        if (noBrick(b) || noColumn(x)) {
            return BAD;
        }
        if (story.scene.what[b] != HELD || !hasBit(fits(b), x)) {
            return STATE;
        }
        story.remember();
        int height = story.scene.height(x);
        story.scene.what[b] = LAID;
        story.scene.column[b] = x;
        story.scene.course[b] = height;
        return height + 1;
    }

    public int falls(int x) {
        if (noColumn(x)) {
            return BAD;
        }
        int b = story.scene.brickAt(x, story.scene.height(x) - 1);
        if (noBrick(b)) {
            return STATE;
        }
        story.remember();
        story.scene.what[b] = HELD;
        return b;
    }

    public int undo() {
        if (story.known <= 0) {
            return STATE;
        }
        story.stepBack();
        return story.known;
    }

    public int now(int what) {
        if (what < 0 || what > 5) {
            return BAD;
        }
        return what == 5 ? plan.more(told, story.scene) : story.scene.howMany(what);
    }

    // ---- plans

    public int wall(int x) {
        return noColumn(x) ? BAD : plan.heightOf(told, story.scene, x);
    }

    public int letters(int n) {
        if (n < 1 || n > MOST_COLUMNS * MOST_COURSES) {
            return BAD;
        }
        return plan.fewestToPrompt(told, story.scene, n);
    }

    public int apology(int n, int k) {
        if (n < -30 || n > 30 || k < -1 || k >= MOST_WORDS) {
            return BAD;
        }
        int words = wording.shortest(told, n);
        if (k == -1 || words == NONE) {
            return words;
        }
        return k < words ? wording.row[k] : NONE;
    }

    public int turn(int j, int b) {
        if (noJudge(j) || noBrick(b)) {
            return BAD;
        }
        int worth = story.scene.worth[b];
        int holding = told.judgesFor(worth);
        int turned = told.isFor(j, worth) ? holding - 1 : holding + 1;
        return told.holds(holding) == told.holds(turned) ? 0 : 1;
    }

    public int odds(int x, int k) {
        if (x < 0 || x > TENTHS || k < 0 || k > MOST_BRICKS) {
            return BAD;
        }
        spreadChances(x, story.scene.howMany(LAID));
        long sum = 0L;
        for (int i = 0; i <= k; i++) {
            sum += chances[i];
        }
        return (int) (sum / A_MILLIONTH);
    }

    // ---- what it was worth

    public int hears(int j, int held) {
        if (noJudge(j) || held < 0 || held > 1) {
            return BAD;
        }
        if (hearing.heard >= MOST_HEARD) {
            return FULL;
        }
        hearing.add(j, held == 1);
        return hearing.heard;
    }

    public int forget() {
        int had = hearing.heard;
        hearing.heard = 0;
        return had;
    }

    public int worths(int what) {
        switch (what) {
            case 0:
                return hearing.howMany(told, 0);
            case 1:
                return hearing.least(told);
            case 2:
                return hearing.greatest(told);
            default:
                return BAD;
        }
    }

    public int ask() {
        return hearing.whomToAsk(told);
    }

    // ---- kinds, images

    public int mark(int kind, int b) {
        if (noBrick(b)) {
            return NO;
        }
        switch (kind) {
            case 0:
                return markOfBrick(b);
            case 1:
                return markOfArch(b);
            case 2:
                return markOfFont(b);
            case 3:
                return markOfVault(b);
            case 4:
                return markOfStep(b);
            case 5:
                return markOfChapel(b);
            default:
                return NO;
        }
    }

    public int keep(int image) {
        if (noImage(image)) {
            return BAD;
        }
        images[image].become(story);
        kept[image] = true;
        return story.scene.howMany(LAID);
    }

    public int back(int image) {
        if (noImage(image)) {
            return BAD;
        }
        if (!kept[image]) {
            return STATE;
        }
        story.become(images[image]);
        return story.scene.howMany(LAID);
    }

    public int count(int what) {
        switch (what) {
            case 0:
                return told.columns;
            case 1:
                return told.courses;
            case 2:
                return told.bricks;
            case 3:
                return told.judges;
            case 4:
                return told.sorts;
            case 5:
                return hearing.heard;
            case 6:
                return story.known;
            case 7:
                return reader.length;
            default:
                return BAD;
        }
    }

    public long trace() {
        return asked;
    }

    private boolean noBrick(int b) {
        return b < 0 || b >= told.bricks;
    }

    private boolean noColumn(int x) {
        return x < 0 || x >= told.columns;
    }

    private boolean noJudge(int j) {
        return j < 0 || j >= told.judges;
    }

    private static boolean noHolder(int h) {
        return h < 0 || h >= HOLDERS;
    }

    private static boolean noImage(int image) {
        return image < 0 || image >= IMAGES;
    }

    private static boolean hasBit(int bits, int i) {
        return (bits >> i & 1) == 1;
    }

    private static int shapeAt(int x, int y) {
        return (2 * y + x) % SHAPES;
    }

    private int fits(int b) {
        if (story.scene.what[b] == LAID) {
            return 0;
        }
        int bits = 0;
        for (int x = 0; x < told.columns; x++) {
            int height = story.scene.height(x);
            if (height < told.courses && shapeAt(x, height) == told.shape[b]) {
                bits |= 1 << x;
            }
        }
        return bits;
    }

    private int wouldHold(int j) {
        int bits = 0;
        for (int b = 0; b < told.bricks; b++) {
            if (told.isFor(j, story.scene.worth[b])) {
                bits |= 1 << b;
            }
        }
        return bits;
    }

    // All ten bricks are gone through, so that one divisor serves however many are laid:
    // those that are not laid are never false, and count ten tenths.
    private void spreadChances(int x, int laid) {
        Arrays.fill(chances, 0L);
        chances[0] = 1L;
        for (int n = 0; n < MOST_BRICKS; n++) {
            int wrong = n < laid ? x : 0;
            for (int i = MOST_BRICKS; i > 0; i--) {
                chances[i] = chances[i] * (TENTHS - wrong) + chances[i - 1] * wrong;
            }
            chances[0] = chances[0] * (TENTHS - wrong);
        }
    }

    private int markOfBrick(int b) {
        asked += 1L;
        return story.scene.worth[b];
    }

    private int markOfArch(int b) {
        asked += 10L;
        return markOfBrick(b) + told.shape[b];
    }

    private int markOfFont(int b) {
        asked += 100L;
        return markOfBrick(b) - story.scene.howMany(LAID);
    }

    private int markOfVault(int b) {
        asked += 1000L;
        return markOfArch(b) * 2;
    }

    private int markOfStep(int b) {
        asked += 10000L;
        return markOfFont(b) + b;
    }

    private int markOfChapel(int b) {
        asked += 100000L;
        return markOfBrick(b) + told.holder[b];
    }

    /** What a text has told: it stays till another is read. */
    private static final class Told {
        private int columns;
        private int courses;
        private int bricks;
        private int judges;
        private int sorts;
        private final int[] kin = new int[HOLDERS];
        private final int[] shape = new int[MOST_BRICKS];
        private final int[] holder = new int[MOST_BRICKS];
        private final int[] worth = new int[MOST_BRICKS];
        private final int[] ear = new int[MOST_JUDGES];
        private final int[] sortWorth = new int[MOST_SORTS];

        private Told() {
            reset();
        }

        private void reset() {
            columns = FIRST_COLUMNS;
            courses = FIRST_COURSES;
            bricks = 0;
            judges = 0;
            sorts = 0;
            Arrays.fill(kin, 0);
        }

        private void join(int a, int b) {
            kin[a] |= 1 << b;
            kin[b] |= 1 << a;
        }

        private int reach(int holders) {
            int bits = holders;
            for (int h = 0; h < HOLDERS; h++) {
                if (hasBit(holders, h)) {
                    bits |= kin[h];
                }
            }
            return bits;
        }

        private boolean isFor(int j, int letterWorth) {
            return ear[j] <= letterWorth;
        }

        private int judgesFor(int letterWorth) {
            int holding = 0;
            for (int j = 0; j < judges; j++) {
                if (isFor(j, letterWorth)) {
                    holding++;
                }
            }
            return holding;
        }

        private boolean holds(int holding) {
            return judges == 0 || holding > judges - holding;
        }
    }

    /** Keeps the text, and reads it into what it tells, token by token. */
    private static final class Reader {
        private final int[] source = new int[MOST_BYTES];
        private int length = 0;
        private int next = 0;
        private int start = 0;
        private int token = END;
        private int value = 0;

        private void add(int c) {
            if (length < MOST_BYTES) {
                source[length] = c;
                length++;
            }
        }

        // The token that was read last is the first that can't stand: its start is the fault.
        private int read(Told into) {
            next = 0;
            into.reset();
            for (int items = 0; items <= MOST_BYTES; items++) {
                step();
                if (token == END) {
                    return items;
                }
                if (!item(into, items) || !stop()) {
                    return -10 - start;
                }
            }
            return -10 - start;
        }

        private boolean item(Told into, int items) {
            if (token != LETTERS) {
                return false;
            }
            switch (value) {
                case 'w':
                    return items == 0 && wallItem(into);
                case 'k':
                    return kinItem(into);
                case 'b':
                    return into.bricks < MOST_BRICKS && brickItem(into);
                case 'j':
                    return into.judges < MOST_JUDGES && judgeItem(into);
                case 's':
                    return into.sorts < MOST_SORTS && sortItem(into);
                default:
                    return false;
            }
        }

        private boolean wallItem(Told into) {
            if (!number(1, MOST_COLUMNS)) {
                return false;
            }
            into.columns = value;
            if (!number(1, MOST_COURSES)) {
                return false;
            }
            into.courses = value;
            return true;
        }

        private boolean kinItem(Told into) {
            if (!number(0, HOLDERS - 1)) {
                return false;
            }
            int first = value;
            if (!number(0, HOLDERS - 1) || value == first) {
                return false;
            }
            into.join(first, value);
            return true;
        }

        private boolean brickItem(Told into) {
            int b = into.bricks;
            if (!number(0, SHAPES - 1)) {
                return false;
            }
            into.shape[b] = value;
            if (!number(0, HOLDERS - 1)) {
                return false;
            }
            into.holder[b] = value;
            if (!number(0, MOST_WORTH)) {
                return false;
            }
            into.worth[b] = value;
            into.bricks = b + 1;
            return true;
        }

        private boolean judgeItem(Told into) {
            if (!number(0, MOST_WORTH)) {
                return false;
            }
            into.ear[into.judges] = value;
            into.judges++;
            return true;
        }

        private boolean sortItem(Told into) {
            if (!number(0, MOST_SORT_TOLD)) {
                return false;
            }
            into.sortWorth[into.sorts] = value - SORT_ZERO;
            into.sorts++;
            return true;
        }

        private boolean number(int least, int greatest) {
            step();
            return token == NUMBER && value >= least && value <= greatest;
        }

        private boolean stop() {
            step();
            return token == STOP;
        }

        private void step() {
            start = endOfRun(next, ' ', ' ');
            int behindLetters = endOfRun(start, 'a', 'z');
            int behindDigits = endOfRun(start, '0', '9');
            if (start >= length) {
                next = start;
                token = END;
            } else if (behindLetters > start) {
                next = behindLetters;
                takeLetters();
            } else if (behindDigits > start) {
                next = behindDigits;
                takeNumber();
            } else {
                next = start + 1;
                token = source[start] == ';' ? STOP : WRONG;
            }
        }

        private int endOfRun(int from, char low, char high) {
            int at = from;
            while (at < length && source[at] >= low && source[at] <= high) {
                at++;
            }
            return at;
        }

        // Every item begins with one letter: several side by side are none of them.
        private void takeLetters() {
            value = source[start];
            token = next - start == 1 ? LETTERS : WRONG;
        }

        private void takeNumber() {
            int digits = next - start;
            int first = source[start] - '0';
            if (digits == 1) {
                value = first;
                token = NUMBER;
            } else if (digits == 2 && first > 0) {
                value = first * 10 + source[start + 1] - '0';
                token = NUMBER;
            } else {
                token = WRONG;
            }
        }
    }

    /** What the bricks are at one moment. */
    private static final class Scene {
        private int bricks = 0;
        private final int[] what = new int[MOST_BRICKS];
        private final int[] worth = new int[MOST_BRICKS];
        // Of a brick that is not laid, column and course are stale and never looked at.
        private final int[] column = new int[MOST_BRICKS];
        private final int[] course = new int[MOST_BRICKS];

        private void begin(Told told) {
            bricks = told.bricks;
            Arrays.fill(what, AWAY);
            System.arraycopy(told.worth, 0, worth, 0, MOST_BRICKS);
        }

        private void become(Scene other) {
            bricks = other.bricks;
            System.arraycopy(other.what, 0, what, 0, MOST_BRICKS);
            System.arraycopy(other.worth, 0, worth, 0, MOST_BRICKS);
            System.arraycopy(other.column, 0, column, 0, MOST_BRICKS);
            System.arraycopy(other.course, 0, course, 0, MOST_BRICKS);
        }

        private int howMany(int state) {
            int found = 0;
            for (int b = 0; b < bricks; b++) {
                if (what[b] == state) {
                    found++;
                }
            }
            return found;
        }

        private int height(int x) {
            int high = 0;
            for (int b = 0; b < bricks; b++) {
                if (what[b] == LAID && column[b] == x) {
                    high++;
                }
            }
            return high;
        }

        private int brickAt(int x, int y) {
            for (int b = 0; b < bricks; b++) {
                if (what[b] == LAID && column[b] == x && course[b] == y) {
                    return b;
                }
            }
            return NONE;
        }
    }

    /** The present scene, with those ahead of it that may come back. */
    private static final class Story {
        private final Scene scene = new Scene();
        private final Scene[] past = new Scene[MOST_UNDONE];
        private int known = 0;

        private Story() {
            for (int i = 0; i < MOST_UNDONE; i++) {
                past[i] = new Scene();
            }
        }

        private void begin(Told told) {
            scene.begin(told);
            known = 0;
        }

        private void remember() {
            if (known >= MOST_UNDONE) {
                dropOldest();
            }
            past[known].become(scene);
            known++;
        }

        // The lost scene's rows are used again for the newest.
        private void dropOldest() {
            Scene oldest = past[0];
            for (int i = 1; i < MOST_UNDONE; i++) {
                past[i - 1] = past[i];
            }
            past[MOST_UNDONE - 1] = oldest;
            known = MOST_UNDONE - 1;
        }

        private void stepBack() {
            if (known > 0) {
                known--;
                scene.become(past[known]);
            }
        }

        private void become(Story other) {
            scene.become(other.scene);
            known = other.known;
            for (int i = 0; i < known; i++) {
                past[i].become(other.past[i]);
            }
        }
    }

    /**
     * How high the wall can come. A stock is how many bricks there are of each shape;
     * the table has, for every stock within the greatest one, the most bricks that the
     * columns from x on can take, and how high column x stands then.
     */
    private static final class Plan {
        private final int[] most = new int[(MOST_COLUMNS + 1) * STOCKS];
        private final int[] rise = new int[MOST_COLUMNS * STOCKS];
        private final int[] stock = new int[SHAPES];
        private final int[] left = new int[SHAPES];
        private final int[] stride = new int[SHAPES];
        private final int[] height = new int[MOST_COLUMNS];

        private int more(Told told, Scene scene) {
            return most[tabulateHeld(told, scene)];
        }

        private int heightOf(Told told, Scene scene, int column) {
            int s = tabulateHeld(told, scene);
            for (int x = 0; x < column; x++) {
                int high = rise[x * STOCKS + s];
                for (int y = height[x]; y < high; y++) {
                    s -= stride[shapeAt(x, y)];
                }
            }
            return rise[column * STOCKS + s];
        }

        private int fewestToPrompt(Told told, Scene scene, int n) {
            int everybody = (1 << HOLDERS) - 1;
            gatherComers(told, scene, everybody);
            tabulate(told, scene);
            int fewest = NONE;
            for (int holders = 0; holders <= everybody; holders++) {
                if (fewest == NONE || Integer.bitCount(holders) < Integer.bitCount(fewest)) {
                    gatherComers(told, scene, told.reach(holders));
                    if (most[placeOfLeft()] >= n) {
                        fewest = holders;
                    }
                }
            }
            return fewest;
        }

        private int tabulateHeld(Told told, Scene scene) {
            Arrays.fill(left, 0);
            for (int b = 0; b < told.bricks; b++) {
                if (scene.what[b] == HELD) {
                    left[told.shape[b]]++;
                }
            }
            return tabulate(told, scene);
        }

        private void gatherComers(Told told, Scene scene, int reach) {
            Arrays.fill(left, 0);
            for (int b = 0; b < told.bricks; b++) {
                int what = scene.what[b];
                if (what == HELD || what == COME || (what == AWAY && hasBit(reach, told.holder[b]))) {
                    left[told.shape[b]]++;
                }
            }
        }

        // The table's greatest stock is what is left; its place is answered.
        private int tabulate(Told told, Scene scene) {
            System.arraycopy(left, 0, stock, 0, SHAPES);
            stride[2] = 1;
            stride[1] = stock[2] + 1;
            stride[0] = (stock[1] + 1) * stride[1];
            int greatest = placeOfLeft();
            for (int s = 0; s <= greatest; s++) {
                most[told.columns * STOCKS + s] = 0;
            }
            for (int x = told.columns - 1; x >= 0; x--) {
                height[x] = scene.height(x);
                tabulateColumn(x, told.courses);
            }
            return greatest;
        }

        private int placeOfLeft() {
            return left[0] * stride[0] + left[1] * stride[1] + left[2] * stride[2];
        }

        private void tabulateColumn(int x, int courses) {
            for (int i = 0; i <= stock[0]; i++) {
                for (int j = 0; j <= stock[1]; j++) {
                    for (int k = 0; k <= stock[2]; k++) {
                        left[0] = i;
                        left[1] = j;
                        left[2] = k;
                        raise(x, courses);
                    }
                }
            }
        }

        // Of equally many bricks the greater height is taken: columns are compared from 0 on.
        private void raise(int x, int courses) {
            int here = placeOfLeft();
            int s = here;
            int best = most[(x + 1) * STOCKS + s];
            int high = height[x];
            for (int y = height[x]; y < courses; y++) {
                int shape = shapeAt(x, y);
                if (left[shape] <= 0) {
                    break;
                }
                left[shape]--;
                s -= stride[shape];
                int bricks = y + 1 - height[x] + most[(x + 1) * STOCKS + s];
                if (bricks >= best) {
                    best = bricks;
                    high = y + 1;
                }
            }
            most[x * STOCKS + here] = best;
            rise[x * STOCKS + here] = high;
        }
    }

    /** The shortest apology of a told worth. */
    private static final class Wording {
        private final int[] row = new int[MOST_WORDS];

        private int shortest(Told told, int n) {
            for (int words = 0; words <= MOST_WORDS; words++) {
                if (fill(told, 0, words, n)) {
                    return words;
                }
            }
            return NONE;
        }

        // Sorts are tried in their order, so the first row found is the first of all.
        private boolean fill(Told told, int at, int words, int missing) {
            if (at >= words || at >= MOST_WORDS) {
                return missing == 0;
            }
            for (int s = 0; s < told.sorts; s++) {
                if (at == 0 || row[at - 1] != s) {
                    row[at] = s;
                    if (fill(told, at + 1, words, missing - told.sortWorth[s])) {
                        return true;
                    }
                }
            }
            return false;
        }
    }

    /** What judges were heard to say of a letter whose worth is not known. */
    private static final class Hearing {
        private int heard = 0;
        private final int[] who = new int[MOST_HEARD];
        private final boolean[] wasFor = new boolean[MOST_HEARD];

        private void add(int j, boolean held) {
            if (heard < MOST_HEARD) {
                who[heard] = j;
                wasFor[heard] = held;
                heard++;
            }
        }

        private boolean agrees(Told told, int worth) {
            for (int i = 0; i < heard; i++) {
                if (told.isFor(who[i], worth) != wasFor[i]) {
                    return false;
                }
            }
            return true;
        }

        private int howMany(Told told, int from) {
            int found = 0;
            for (int worth = from; worth <= MOST_WORTH; worth++) {
                if (agrees(told, worth)) {
                    found++;
                }
            }
            return found;
        }

        private int least(Told told) {
            for (int worth = 0; worth <= MOST_WORTH; worth++) {
                if (agrees(told, worth)) {
                    return worth;
                }
            }
            return NONE;
        }

        private int greatest(Told told) {
            for (int worth = MOST_WORTH; worth >= 0; worth--) {
                if (agrees(told, worth)) {
                    return worth;
                }
            }
            return NONE;
        }

        // Who parts nothing leaves all of them in one part, and so never beats the start.
        private int whomToAsk(Told told) {
            int all = howMany(told, 0);
            int best = NONE;
            int leastPart = all;
            for (int j = 0; j < told.judges; j++) {
                int above = howMany(told, told.ear[j]);
                int part = Math.max(above, all - above);
                if (part < leastPart) {
                    leastPart = part;
                    best = j;
                }
            }
            return best;
        }
    }
}
