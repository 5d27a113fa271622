import java.util.ArrayList;
import java.util.Arrays;
import java.util.Collections;
import java.util.HashMap;
import java.util.LinkedList;
import java.util.List;
import java.util.Map;
import java.util.regex.Matcher;
import java.util.regex.Pattern;

/**
 * The document a second time, in the slowest plain form: whole copies, all rows, all pairs, all courses of
 * the bell. It shares nothing with the class, so that a slip would have to be made twice to pass.
 */
final class Model {
    private static final int[] ROW = {0, 1, 0, -1};
    private static final int[] COLUMN = {1, 0, -1, 0};

    private static final class Car {
        int kind, row, column, way, struck, given;
        Car foe;

        int cell() {
            return 6 * row + column;
        }
    }

    /** What is undone as one. */
    private static final class World {
        final List<Car> cars = new ArrayList<>();
        Car hat;
        int tick;

        World copy() {
            World w = new World();
            Map<Car, Car> twins = new HashMap<>();
            for (Car c : cars) {
                Car d = new Car();
                d.kind = c.kind;
                d.row = c.row;
                d.column = c.column;
                d.way = c.way;
                d.struck = c.struck;
                d.given = c.given;
                twins.put(c, d);
                w.cars.add(d);
            }
            for (Car c : cars) {
                twins.get(c).foe = c.foe == null ? null : twins.get(c.foe);
            }
            w.hat = hat == null ? null : twins.get(hat);
            w.tick = tick;
            return w;
        }

        Car in(int row, int column) {
            for (Car c : cars) {
                if (c.row == row && c.column == column) {
                    return c;
                }
            }
            return null;
        }

        int ahead(Car c) {
            int row = c.row + ROW[c.way];
            int column = c.column + COLUMN[c.way];
            if (row < 0 || row > 3 || column < 0 || column > 5) {
                return 1;
            }
            return in(row, column) != null ? 2 : 0;
        }

        int towards(Car c, Car other) {
            if (other == null || other == c) {
                return -1;
            }
            int rows = other.row - c.row;
            int columns = other.column - c.column;
            if (columns * columns >= rows * rows) {
                return columns < 0 ? 2 : 0;
            }
            return rows < 0 ? 3 : 1;
        }

        int takes(Car c) {
            return by(c.kind, tick, c.way, ahead(c), towards(c, hat), towards(c, c.foe));
        }

        int bumps() {
            int sum = 0;
            for (Car c : cars) {
                sum += c.given;
            }
            return sum;
        }

        void go(Map<Integer, Integer> steered) {
            for (int k = 0; k < cars.size(); k++) {
                Car c = cars.get(k);
                c.way = steered.containsKey(k) ? steered.get(k) : takes(c);
                int found = ahead(c);
                if (found == 0) {
                    c.row += ROW[c.way];
                    c.column += COLUMN[c.way];
                } else if (found == 1) {
                    c.way = (c.way + 1) % 4;
                } else {
                    Car other = in(c.row + ROW[c.way], c.column + COLUMN[c.way]);
                    other.struck++;
                    other.foe = c;
                    c.given++;
                    c.way = (c.way + 2) % 4;
                }
            }
            tick++;
        }

        World later(int ticks) {
            World w = copy();
            for (int i = 0; i < ticks; i++) {
                w.go(Map.of());
            }
            return w;
        }
    }

    /** The way that a kind takes; open to the test, so that notes can be told that fit some kind. */
    static int by(int kind, int t, int w, int a, int h, int f) {
        int right = (w + 1) % 4;
        int plain = a == 1 ? right : w;
        int avoids = a == 2 ? right : plain;
        int chaser = h >= 0 ? h : plain;
        int revenge = f >= 0 ? f : chaser;
        int small = t % 2 != 0 ? right : plain;
        int tired = t % 3 == 0 ? w : avoids;
        return new int[] {plain, chaser, avoids, revenge, small, tired}[kind];
    }

    private static final class Kept {
        final World world;
        final List<int[]> notes;
        final LinkedList<World> past;

        Kept(World world, List<int[]> notes, LinkedList<World> past) {
            this.world = world.copy();
            this.notes = new ArrayList<>(notes);
            this.past = new LinkedList<>();
            for (World w : past) {
                this.past.add(w.copy());
            }
        }
    }

    private World world = new World();
    private List<int[]> notes = new ArrayList<>();
    private LinkedList<World> past = new LinkedList<>();
    private final Kept[] images = new Kept[2];
    private String text = "";
    private long above = 0;
    private long below = 1;
    private final int[] refused = new int[3];

    private int refuse(int counter, int answer) {
        refused[counter]++;
        return answer;
    }

    private int bad(int answer) {
        return refuse(0, answer);
    }

    private static boolean in(int x, int least, int most) {
        return least <= x && x <= most;
    }

    private boolean car(int k) {
        return in(k, 0, world.cars.size() - 1);
    }

    private void forUndo() {
        past.addLast(world.copy());
        if (past.size() > 8) {
            past.removeFirst();
        }
    }

    private void restart() {
        world = new World();
        notes = new ArrayList<>();
        past = new LinkedList<>();
    }

    int floor() {
        int had = world.cars.size();
        restart();
        return had;
    }

    private static void put(World w, int kind, int cell, int way) {
        Car c = new Car();
        c.kind = kind;
        c.row = cell / 6;
        c.column = cell % 6;
        c.way = way;
        w.cars.add(c);
    }

    int car(int kind, int cell, int way) {
        if (!in(kind, 0, 5) || !in(cell, 0, 23) || !in(way, 0, 3)) {
            return bad(-2);
        }
        if (world.in(cell / 6, cell % 6) != null) {
            return refuse(1, -3);
        }
        if (world.cars.size() == 5) {
            return refuse(2, -4);
        }
        put(world, kind, cell, way);
        past.clear();
        return world.cars.size() - 1;
    }

    int type(int c) {
        if (!in(c, 0, 127)) {
            return bad(-2);
        }
        if (text.length() == 150) {
            return refuse(2, -4);
        }
        text += (char) c;
        return text.length();
    }

    int clear() {
        int had = text.length();
        text = "";
        return had;
    }

    /** Tokens by a pattern, and the grammar by what may stand behind what has been. */
    int read() {
        World w = new World();
        Matcher m = Pattern.compile("[a-z]+|[0-9]+|[^ ]", Pattern.DOTALL).matcher(text);
        List<String> item = new ArrayList<>();
        int items = 0;
        while (m.find()) {
            String token = m.group();
            item.add(token);
            if (!stands(w, items, item)) {
                return -10 - m.start();
            }
            if (token.equals(";")) {
                items++;
                item.clear();
            }
        }
        if (!item.isEmpty() || items == 0) {
            return -10 - text.length();
        }
        restart();
        world = w;
        return items;
    }

    private static int number(String token, int most) {
        return token.matches("[0-9]{1,2}") && Integer.parseInt(token) <= most ? Integer.parseInt(token) : -1;
    }

    private static boolean stands(World w, int items, List<String> item) {
        String word = item.get(0);
        int size = item.size();
        String last = item.get(size - 1);
        int cars = w.cars.size();
        int n = -1;
        switch (word) {
            case "floor":
                return items == 0 && (size == 1 || size == 2 && last.equals(";"));
            case "car":
                if (size == 1) {
                    return items > 0 && cars < 5;
                }
                if (size == 5) {
                    if (last.equals(";")) {
                        put(w, number(item.get(1), 5), number(item.get(2), 23), number(item.get(3), 3));
                    }
                    return last.equals(";");
                }
                n = number(last, size == 2 ? 5 : size == 3 ? 23 : 3);
                return n >= 0 && (size != 3 || w.in(n / 6, n % 6) == null);
            case "hat":
                if (size == 3) {
                    w.hat = w.cars.get(number(item.get(1), cars - 1));
                    return last.equals(";");
                }
                return size == 1 ? items > 0 : number(last, cars - 1) >= 0;
            case "foe":
                if (size == 4) {
                    w.cars.get(number(item.get(1), 4)).foe = w.cars.get(number(item.get(2), 4));
                    return last.equals(";");
                }
                n = number(last, cars - 1);
                return size == 1 ? items > 0 : n >= 0 && (size == 2 || n != number(item.get(1), 4));
            default:
                return false;
        }
    }

    int tick(int n) {
        if (!in(n, 1, 60)) {
            return bad(-2);
        }
        forUndo();
        int had = world.bumps();
        world = world.later(n);
        return world.bumps() - had;
    }

    private int hatted() {
        return world.cars.indexOf(world.hat);
    }

    int hat(int k) {
        if (k != -1 && !car(k)) {
            return bad(-10);
        }
        int had = hatted();
        forUndo();
        world.hat = k == -1 ? null : world.cars.get(k);
        return had;
    }

    int push(int k, int cell, int way) {
        if (!car(k) || !in(cell, 0, 23) || !in(way, 0, 3)) {
            return bad(-2);
        }
        Car c = world.cars.get(k);
        Car there = world.in(cell / 6, cell % 6);
        if (there != null && there != c) {
            return refuse(1, -3);
        }
        forUndo();
        int had = c.cell();
        c.row = cell / 6;
        c.column = cell % 6;
        c.way = way;
        return had;
    }

    int undo() {
        if (past.isEmpty()) {
            return refuse(1, -3);
        }
        world = past.removeLast();
        return world.tick;
    }

    private static int fact(World w, int k, int what) {
        Car c = w.cars.get(k);
        return new int[] {c.kind, c.cell(), c.way, c.struck, c.given, w.cars.indexOf(c.foe), w.ahead(c)}[what];
    }

    int of(int k, int what) {
        return car(k) && in(what, 0, 6) ? fact(world, k, what) : bad(-10);
    }

    int at(int cell) {
        return in(cell, 0, 23) ? world.cars.indexOf(world.in(cell / 6, cell % 6)) : bad(-10);
    }

    int way(int k) {
        return car(k) ? world.takes(world.cars.get(k)) : bad(-2);
    }

    int then(int k, int m, int what) {
        return car(k) && in(m, 0, 60) && in(what, 0, 3) ? fact(world.later(m), k, what + 1) : bad(-2);
    }

    int when(int k) {
        if (!car(k)) {
            return bad(-2);
        }
        World w = world.copy();
        for (int m = 1; m <= 60; m++) {
            w.go(Map.of());
            if (w.cars.get(k).struck > world.cars.get(k).struck) {
                return m;
            }
        }
        return -1;
    }

    int bumps(int m) {
        return in(m, 0, 60) ? world.later(m).bumps() - world.bumps() : bad(-2);
    }

    /** All sets of cars, the joined ones of them. */
    int cluster(int what) {
        if (!in(what, 0, 1)) {
            return bad(-2);
        }
        int best = 0;
        for (int bits = 1; bits < 1 << world.cars.size(); bits++) {
            boolean more = Integer.bitCount(bits) > Integer.bitCount(best);
            boolean like = Integer.bitCount(bits) == Integer.bitCount(best);
            boolean earlier = Integer.numberOfTrailingZeros(bits) < Integer.numberOfTrailingZeros(best);
            if (joined(bits) && (more || like && earlier)) {
                best = bits;
            }
        }
        return what == 0 ? Integer.bitCount(best) : best;
    }

    private boolean joined(int bits) {
        int reached = Integer.lowestOneBit(bits);
        for (int i = 0; i < 5; i++) {
            for (int k = 0; k < world.cars.size(); k++) {
                for (int j = 0; j < world.cars.size(); j++) {
                    Car a = world.cars.get(k);
                    Car b = world.cars.get(j);
                    boolean beside = a.row == b.row && Math.abs(a.column - b.column) == 1
                        || a.column == b.column && Math.abs(a.row - b.row) == 1;
                    if (beside && (reached >> k & 1) == 1 && (bits >> j & 1) == 1) {
                        reached |= 1 << j;
                    }
                }
            }
        }
        return reached == bits;
    }

    int stand(int what) {
        if (!in(what, 0, 1)) {
            return bad(-2);
        }
        List<int[]> free = new ArrayList<>();
        for (int cell = 0; cell < 24; cell++) {
            int far = 0;
            for (Car c : world.cars) {
                far += Math.abs(c.row - cell / 6) + Math.abs(c.column - cell % 6);
            }
            if (world.in(cell / 6, cell % 6) == null) {
                free.add(new int[] {cell, far});
            }
        }
        return Collections.min(free, (a, b) -> a[1] != b[1] ? a[1] - b[1] : a[0] - b[0])[what];
    }

    int steer(int k, int n, int what, int i) {
        if (!car(k) || !in(n, 1, 5) || !in(what, 0, 1) || i < -1) {
            return bad(-10);
        }
        if (i >= n) {
            return -5;
        }
        int best = Integer.MIN_VALUE;
        int bestRow = -1;
        for (int row = 0; row < 1 << 2 * n; row++) {
            World w = world.copy();
            for (int j = 0; j < n; j++) {
                w.go(Map.of(k, row >> 2 * (n - 1 - j) & 3));
            }
            int worth = what == 1 ? w.cars.get(k).given - world.cars.get(k).given
                : world.cars.get(k).struck - w.cars.get(k).struck;
            if (worth > best) {
                best = worth;
                bestRow = row;
            }
        }
        return i == -1 ? Math.abs(best) : bestRow >> 2 * (n - 1 - i) & 3;
    }

    int note(int k, int t, int w, int a, int h, int f, int y) {
        if (!car(k) || !in(t, 0, 99) || !in(w, 0, 3) || !in(a, 0, 2) || !in(h, -1, 3) || !in(f, -1, 3) || !in(y, 0, 3)) {
            return bad(-2);
        }
        if (notes.size() == 6) {
            return refuse(2, -4);
        }
        notes.add(new int[] {k, t, w, a, h, f, y});
        return notes.size();
    }

    int forget() {
        int had = notes.size();
        notes.clear();
        return had;
    }

    private List<Integer> kindsOf(int k) {
        List<Integer> kinds = new ArrayList<>(Arrays.asList(0, 1, 2, 3, 4, 5));
        for (int[] n : notes) {
            kinds.removeIf(kind -> n[0] == k && by(kind, n[1], n[2], n[3], n[4], n[5]) != n[6]);
        }
        return kinds;
    }

    int is(int k) {
        return car(k) ? kindsOf(k).stream().mapToInt(kind -> 1 << kind).sum() : bad(-2);
    }

    int look(int k) {
        if (!car(k)) {
            return bad(-2);
        }
        Car c = world.cars.get(k);
        int best = -1;
        int fewest = Integer.MAX_VALUE;
        for (int code = 0; code <= 52; code++) {
            if (code % 10 > 2) {
                continue;
            }
            Map<Integer, Integer> alike = new HashMap<>();
            for (int kind : kindsOf(k)) {
                alike.merge(by(kind, code / 10, c.way, code % 10, world.towards(c, world.hat), world.towards(c, c.foe)),
                    1, Integer::sum);
            }
            if (!alike.isEmpty() && Collections.max(alike.values()) < fewest) {
                fewest = Collections.max(alike.values());
                best = code;
            }
        }
        return best;
    }

    private int gain(int p, int i, int q, int j, int of) {
        World w = world.copy();
        w.go(Map.of(p, i, q, j));
        Car now = world.cars.get(of);
        Car then = w.cars.get(of);
        return then.given - now.given - then.struck + now.struck;
    }

    int two(int p, int q, int k) {
        if (!car(p) || !car(q) || p == q || k < -1) {
            return bad(-10);
        }
        List<Integer> rest = new ArrayList<>();
        for (int i = 0; i < 4; i++) {
            for (int j = 0; j < 4; j++) {
                boolean still = true;
                for (int other = 0; other < 4; other++) {
                    still &= gain(p, other, q, j, p) <= gain(p, i, q, j, p);
                    still &= gain(p, i, q, other, q) <= gain(p, i, q, j, q);
                }
                if (still) {
                    rest.add(4 * i + j);
                }
            }
        }
        return k == -1 ? rest.size() : k < rest.size() ? rest.get(k) : -5;
    }

    /** Every course of the bell: rung or not ahead of each tick; from its first ring on all stand. */
    int bell(int n, int c) {
        if (!in(n, 0, 9) || !in(c, 0, 10)) {
            return bad(-2);
        }
        long up = 0;
        long down = 1;
        for (int i = 0; i < n; i++) {
            down *= 10;
        }
        for (int course = 0; course < 1 << n; course++) {
            long odds = 1;
            for (int i = 0; i < n; i++) {
                odds *= (course >> i & 1) == 1 ? c : 10 - c;
            }
            up += odds * (world.later(Math.min(n, Integer.numberOfTrailingZeros(course))).bumps() - world.bumps());
        }
        long a = up;
        long b = down;
        while (b != 0) {
            long left = a % b;
            a = b;
            b = left;
        }
        above = up / a;
        below = down / a;
        return 1;
    }

    int rounds(int seed, int n) {
        if (!in(seed, 0, 999999) || !in(n, 0, 60)) {
            return bad(-2);
        }
        if (world.cars.isEmpty()) {
            return refuse(1, -3);
        }
        World w = world.copy();
        long x = seed;
        for (int i = 0; i < n; i++) {
            x = x * 1103515245L + 12345L & 0x7fffffffL;
            w.cars.get((int) ((x >> 16) % w.cars.size())).way = (int) (x >> 20 & 3);
            w.go(Map.of());
        }
        return w.bumps() - world.bumps();
    }

    long part(int what) {
        return what == 0 ? above : what == 1 ? below : bad(-2);
    }

    int image(int i) {
        if (!in(i, 0, 1)) {
            return bad(-2);
        }
        images[i] = new Kept(world, notes, past);
        return 1;
    }

    int from(int i) {
        if (!in(i, 0, 1)) {
            return bad(-2);
        }
        if (images[i] == null) {
            return refuse(1, -3);
        }
        Kept k = new Kept(images[i].world, images[i].notes, images[i].past);
        world = k.world;
        notes = k.notes;
        past = k.past;
        return 1;
    }

    int status(int what) {
        return in(what, 0, 2) ? refused[what] : bad(-1);
    }

    private int[] counts() {
        return new int[] {world.cars.size(), world.tick, world.bumps(), notes.size(), past.size(), text.length()};
    }

    int count(int what) {
        return in(what, 0, 5) ? counts()[what] : bad(-2);
    }

    long digest() {
        List<Long> values = new ArrayList<>();
        for (int v : counts()) {
            values.add((long) v);
        }
        values.add((long) hatted());
        for (int k = 0; k < world.cars.size(); k++) {
            for (int what = 0; what < 6; what++) {
                values.add((long) fact(world, k, what));
            }
        }
        for (int[] n : notes) {
            for (int v : n) {
                values.add((long) v);
            }
        }
        values.add(above);
        values.add(below);
        long h = 1301;
        for (long v : values) {
            h = 31 * h + v;
        }
        return h;
    }
}
