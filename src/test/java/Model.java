import java.math.BigInteger;
import java.util.ArrayDeque;
import java.util.ArrayList;
import java.util.Deque;
import java.util.HashMap;
import java.util.List;
import java.util.Map;
import java.util.regex.Matcher;
import java.util.regex.Pattern;

/**
 * The document once more, by other means: every search goes through all there is, every
 * undoing keeps a whole copy. It is compared with the program over many runs.
 */
final class Model {
    static final int BAD = -1, STATE = -2, FULL = -3, NONE = -9, NO = -1000000;
    private static final Pattern TOKEN = Pattern.compile("[a-z]+|[0-9]+|;");

    static final class Brick {
        int shape, holder, worth, what;
        Brick copy() {
            Brick other = new Brick();
            other.shape = shape;
            other.holder = holder;
            other.worth = worth;
            other.what = what;
            return other;
        }
    }

    static final class World {
        List<Brick> bricks = new ArrayList<>();
        List<List<Integer>> piles = new ArrayList<>();
        World copy() {
            World other = new World();
            for (Brick b : bricks) other.bricks.add(b.copy());
            for (List<Integer> pile : piles) other.piles.add(new ArrayList<>(pile));
            return other;
        }
    }

    static final class Fault extends Exception {
        private static final long serialVersionUID = 1L;
        final int place;
        Fault(int place) { this.place = place; }
    }

    StringBuilder text = new StringBuilder();
    int columns = 4, courses = 3;
    boolean[][] kin = new boolean[6][6];
    List<Integer> ears = new ArrayList<>(), sorts = new ArrayList<>();
    World world = new World();
    Deque<World> past = new ArrayDeque<>();
    World[] imageWorld = new World[2];
    List<Deque<World>> imagePast = new ArrayList<>();
    List<int[]> heard = new ArrayList<>();
    long trace = 0;
    static final Map<String, int[]> walls = new HashMap<>();

    Model() {
        imagePast.add(null);
        imagePast.add(null);
        emptyPiles();
    }

    private void emptyPiles() {
        world.piles.clear();
        for (int x = 0; x < columns; x++) world.piles.add(new ArrayList<>());
    }

    int type(int c) {
        if (c < 0 || c > 255) return BAD;
        if (text.length() == 120) return FULL;
        text.append((char) c);
        return text.length();
    }

    int clear() {
        int n = text.length();
        text.setLength(0);
        return n;
    }

    private List<String> words;
    private List<Integer> places;
    private int at;

    private void cutIntoTokens() {
        words = new ArrayList<>();
        places = new ArrayList<>();
        Matcher m = TOKEN.matcher(text);
        int i = 0;
        while (i < text.length()) {
            if (text.charAt(i) == ' ') {
                i++;
                continue;
            }
            places.add(i);
            if (m.find(i) && m.start() == i) {
                words.add(m.group());
                i = m.end();
            } else {
                words.add("?");
                i++;
            }
        }
        words.add("");
        places.add(text.length());
        at = 0;
    }

    private int numberWithin(int least, int most, int not) throws Fault {
        String w = words.get(at);
        if (!w.matches("[0-9]|[1-9][0-9]")) throw new Fault(places.get(at));
        int v = Integer.parseInt(w);
        if (v < least || v > most || v == not) throw new Fault(places.get(at));
        at++;
        return v;
    }

    int chapter() {
        cutIntoTokens();
        Model fresh = new Model();
        int items = 0;
        try {
            while (at < words.size() - 1) {
                oneItem(fresh, items);
                if (!words.get(at).equals(";")) throw new Fault(places.get(at));
                at++;
                items++;
            }
        } catch (Fault f) {
            return -10 - f.place;
        }
        columns = fresh.columns;
        courses = fresh.courses;
        kin = fresh.kin;
        ears = fresh.ears;
        sorts = fresh.sorts;
        world = fresh.world;
        emptyPiles();
        past.clear();
        imageWorld = new World[2];
        heard.clear();
        text.setLength(0);
        return items;
    }

    private void oneItem(Model m, int items) throws Fault {
        String w = words.get(at);
        Fault here = new Fault(places.get(at));
        at++;
        if (w.equals("w") && items == 0) {
            m.columns = numberWithin(1, 6, -1);
            m.courses = numberWithin(1, 4, -1);
        } else if (w.equals("k")) {
            int a = numberWithin(0, 5, -1);
            int b = numberWithin(0, 5, a);
            m.kin[a][b] = true;
            m.kin[b][a] = true;
        } else if (w.equals("b") && m.world.bricks.size() < 10) {
            Brick b = new Brick();
            b.shape = numberWithin(0, 2, -1);
            b.holder = numberWithin(0, 5, -1);
            b.worth = numberWithin(0, 30, -1);
            m.world.bricks.add(b);
        } else if (w.equals("j") && m.ears.size() < 3) {
            m.ears.add(numberWithin(0, 30, -1));
        } else if (w.equals("s") && m.sorts.size() < 5) {
            m.sorts.add(numberWithin(0, 18, -1) - 9);
        } else {
            throw here;
        }
    }

    private boolean isBrick(int b) { return b >= 0 && b < world.bricks.size(); }
    private boolean isColumn(int x) { return x >= 0 && x < columns; }
    private boolean isJudge(int j) { return j >= 0 && j < ears.size(); }
    private static int shapeOf(int x, int y) { return (y + y + x) % 3; }
    private boolean onTop(int x, int shape) {
        int y = world.piles.get(x).size();
        return y < courses && shapeOf(x, y) == shape;
    }

    int brick(int b, int what) {
        if (!isBrick(b) || what < 0 || what > 5) return BAD;
        Brick k = world.bricks.get(b);
        if (what == 0) return k.shape;
        if (what == 1) return k.holder;
        if (what == 2) return k.worth;
        if (what == 3) return k.what;
        int where = NONE, fits = 0;
        for (int x = 0; x < columns; x++) {
            if (world.piles.get(x).contains(b)) where = x;
            if (onTop(x, k.shape)) fits += 1 << x;
        }
        if (what == 4) return where;
        return where == NONE ? fits : 0;
    }

    int place(int x, int y) {
        if (!isColumn(x) || y < 0 || y >= courses) return BAD;
        List<Integer> pile = world.piles.get(x);
        return y < pile.size() ? pile.get(y) : NONE;
    }

    int kin(int h) {
        if (h < 0 || h > 5) return BAD;
        int bits = 0;
        for (int i = 0; i < 6; i++) if (kin[h][i]) bits += 1 << i;
        return bits;
    }

    int judge(int j, int what) {
        if (!isJudge(j) || (what != 0 && what != 1)) return BAD;
        if (what == 0) return ears.get(j);
        int bits = 0;
        for (int b = 0; b < world.bricks.size(); b++)
            if (world.bricks.get(b).worth >= ears.get(j)) bits += 1 << b;
        return bits;
    }

    private void save() {
        past.addLast(world.copy());
        if (past.size() > 10) past.removeFirst();
    }

    int prompts(int h) {
        if (h < 0 || h > 5) return BAD;
        save();
        int n = 0;
        for (Brick b : world.bricks) {
            if (b.what == 0 && (b.holder == h || kin[h][b.holder])) {
                b.what = 1;
                n++;
            }
        }
        return n;
    }

    private boolean verdict(int worth, int turned) {
        if (ears.isEmpty()) return true;
        int sum = 0;
        for (int j = 0; j < ears.size(); j++) {
            boolean yes = worth >= ears.get(j);
            if (j == turned) yes = !yes;
            sum += yes ? 1 : -1;
        }
        return sum > 0;
    }

    int reads(int b) {
        if (!isBrick(b)) return BAD;
        Brick k = world.bricks.get(b);
        if (k.what != 1) return STATE;
        save();
        k.what = verdict(k.worth, -1) ? 2 : 3;
        return k.what;
    }

    int writes(int b, int worth) {
        if (!isBrick(b) || worth < 0 || worth > 30) return BAD;
        Brick k = world.bricks.get(b);
        if (k.what != 3) return STATE;
        save();
        int before = k.worth;
        k.worth = worth;
        k.what = 1;
        return before;
    }

    int lays(int b, int x) {
        if (!isBrick(b) || !isColumn(x)) return BAD;
        Brick k = world.bricks.get(b);
        if (k.what != 2 || !onTop(x, k.shape)) return STATE;
        save();
        k.what = 4;
        world.piles.get(x).add(b);
        return world.piles.get(x).size();
    }

    int falls(int x) {
        if (!isColumn(x)) return BAD;
        if (world.piles.get(x).isEmpty()) return STATE;
        save();
        List<Integer> pile = world.piles.get(x);
        int b = pile.remove(pile.size() - 1);
        world.bricks.get(b).what = 2;
        return b;
    }

    int undo() {
        if (past.isEmpty()) return STATE;
        world = past.removeLast();
        return past.size();
    }

    private int with(int what) {
        int n = 0;
        for (Brick b : world.bricks) if (b.what == what) n++;
        return n;
    }

    /** How many more, then every height. */
    private int[] bestWall(int[] have) {
        StringBuilder key = new StringBuilder();
        key.append(columns).append(' ').append(courses);
        int[] low = new int[columns];
        for (int x = 0; x < columns; x++) {
            low[x] = world.piles.get(x).size();
            key.append(' ').append(low[x]);
        }
        for (int h : have) key.append(' ').append(h);
        String name = key.toString();
        int[] found = walls.get(name);
        if (found == null) {
            found = searchWall(low, have);
            walls.put(name, found);
        }
        return found;
    }

    private int[] searchWall(int[] low, int[] have) {
        int[] best = null;
        int rows = 1;
        for (int x = 0; x < columns; x++) rows *= courses + 1;
        for (int code = 0; code < rows; code++) {
            int[] high = new int[columns];
            int rest = code;
            for (int x = columns - 1; x >= 0; x--) {
                high[x] = rest % (courses + 1);
                rest /= courses + 1;
            }
            int[] row = wallOf(low, high, have);
            // Codes rise as heights do, column 0 first: a later equal is the greater.
            if (row != null && (best == null || row[0] >= best[0])) best = row;
        }
        return best;
    }

    private int[] wallOf(int[] low, int[] high, int[] have) {
        int[] left = have.clone();
        int[] row = new int[columns + 1];
        for (int x = 0; x < columns; x++) {
            if (high[x] < low[x]) return null;
            for (int y = low[x]; y < high[x]; y++) left[shapeOf(x, y)]--;
            row[0] += high[x] - low[x];
            row[x + 1] = high[x];
        }
        return left[0] < 0 || left[1] < 0 || left[2] < 0 ? null : row;
    }

    private int[] heldWall() {
        int[] have = new int[3];
        for (Brick b : world.bricks) if (b.what == 2) have[b.shape]++;
        return bestWall(have);
    }

    int now(int what) {
        if (what < 0 || what > 5) return BAD;
        return what == 5 ? heldWall()[0] : with(what);
    }

    int wall(int x) {
        return isColumn(x) ? heldWall()[x + 1] : BAD;
    }

    int letters(int n) {
        if (n < 1 || n > 24) return BAD;
        for (int size = 0; size <= 6; size++) {
            for (int set = 0; set < 64; set++) {
                if (Integer.bitCount(set) == size && wallIfPrompted(set) >= n) return set;
            }
        }
        return NONE;
    }

    private int wallIfPrompted(int set) {
        World before = world;
        world = world.copy();
        for (int h = 0; h < 6; h++) {
            if ((set & 1 << h) == 0) continue;
            for (Brick b : world.bricks)
                if (b.what == 0 && (b.holder == h || kin[h][b.holder])) b.what = 1;
        }
        for (Brick b : world.bricks) if (b.what == 1) b.what = 2;
        int n = heldWall()[0];
        world = before;
        return n;
    }

    int apology(int n, int k) {
        if (n < -30 || n > 30 || k < -1 || k > 4) return BAD;
        for (int size = 0; size <= 5; size++) {
            int rows = 1;
            for (int i = 0; i < size; i++) rows *= sorts.size();
            for (int code = 0; code < rows; code++) {
                int[] row = new int[size];
                int rest = code;
                for (int i = size - 1; i >= 0; i--) {
                    row[i] = rest % sorts.size();
                    rest /= sorts.size();
                }
                int sum = 0;
                boolean twice = false;
                for (int i = 0; i < size; i++) {
                    sum += sorts.get(row[i]);
                    twice |= i > 0 && row[i] == row[i - 1];
                }
                if (sum == n && !twice) return k == -1 ? size : k < size ? row[k] : NONE;
            }
        }
        return NONE;
    }

    int turn(int j, int b) {
        if (!isJudge(j) || !isBrick(b)) return BAD;
        int worth = world.bricks.get(b).worth;
        return verdict(worth, -1) != verdict(worth, j) ? 1 : 0;
    }

    int odds(int x, int k) {
        if (x < 0 || x > 10 || k < 0 || k > 10) return BAD;
        int n = with(4);
        BigInteger sum = BigInteger.ZERO;
        for (int set = 0; set < 1 << n; set++) {
            int wrong = Integer.bitCount(set);
            if (wrong > k) continue;
            sum = sum.add(BigInteger.valueOf(x).pow(wrong).multiply(BigInteger.valueOf(10 - x).pow(n - wrong)));
        }
        return sum.multiply(BigInteger.valueOf(1000000)).divide(BigInteger.TEN.pow(n)).intValueExact();
    }

    int hears(int j, int held) {
        if (!isJudge(j) || (held != 0 && held != 1)) return BAD;
        if (heard.size() == 4) return FULL;
        heard.add(new int[] {j, held});
        return heard.size();
    }

    int forget() {
        int n = heard.size();
        heard.clear();
        return n;
    }

    private List<Integer> possible() {
        List<Integer> all = new ArrayList<>();
        for (int v = 0; v <= 30; v++) {
            boolean fine = true;
            for (int[] h : heard) fine &= (v >= ears.get(h[0]) ? 1 : 0) == h[1];
            if (fine) all.add(v);
        }
        return all;
    }

    int worths(int what) {
        if (what < 0 || what > 2) return BAD;
        List<Integer> all = possible();
        if (what == 0) return all.size();
        if (all.isEmpty()) return NONE;
        return all.get(what == 1 ? 0 : all.size() - 1);
    }

    int ask() {
        List<Integer> all = possible();
        if (all.size() < 2) return NONE;
        int best = NONE, least = 99;
        boolean parts = false;
        for (int j = 0; j < ears.size(); j++) {
            int yes = 0, no = 0;
            for (int v : all) {
                if (v >= ears.get(j)) yes++;
                else no++;
            }
            parts |= yes > 0 && no > 0;
            if (Math.max(yes, no) < least) {
                least = Math.max(yes, no);
                best = j;
            }
        }
        return parts ? best : NONE;
    }

    int mark(int kind, int b) {
        if (kind < 0 || kind > 5 || !isBrick(b)) return NO;
        Brick k = world.bricks.get(b);
        int[] comes = {1, 11, 101, 1011, 10101, 100001};
        int[] marks = {k.worth, k.worth + k.shape, k.worth - with(4), 2 * (k.worth + k.shape),
            k.worth - with(4) + b, k.worth + k.holder};
        trace += comes[kind];
        return marks[kind];
    }

    int keep(int image) {
        if (image != 0 && image != 1) return BAD;
        imageWorld[image] = world.copy();
        imagePast.set(image, copyOf(past));
        return with(4);
    }

    int back(int image) {
        if (image != 0 && image != 1) return BAD;
        if (imageWorld[image] == null) return STATE;
        world = imageWorld[image].copy();
        past = copyOf(imagePast.get(image));
        return with(4);
    }

    private static Deque<World> copyOf(Deque<World> from) {
        Deque<World> to = new ArrayDeque<>();
        for (World w : from) to.addLast(w.copy());
        return to;
    }

    int count(int what) {
        switch (what) {
            case 0: return columns;
            case 1: return courses;
            case 2: return world.bricks.size();
            case 3: return ears.size();
            case 4: return sorts.size();
            case 5: return heard.size();
            case 6: return past.size();
            case 7: return text.length();
            default: return BAD;
        }
    }

    long trace() { return trace; }
}
