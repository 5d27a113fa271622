/**
 * Bumper cars on a floor of cells: who goes where and who strikes whom, tick by tick.
 *
 * All rows are made in constructors and used again, so that no call makes an object.
 */
public final class BumperCars {
    public static final int NONE = -1, BAD = -2, NO = -3, FULL = -4;

    /** What hat, of, at, steer and two answer in place of BAD. */
    private static final int BAD_FAR = -10;
    private static final int NOT_SO_MANY = -5;

    private static final int MOST_CARS = 5;
    private static final int COLUMNS = 6;
    private static final int ROWS = 4;
    private static final int CELLS = 24;
    private static final int WAYS = 4;
    private static final int KINDS = 6;
    private static final int MOST_TICKS = 60;
    private static final int MOST_BYTES = 150;
    private static final int MOST_NOTES = 6;
    private static final int MOST_UNDO = 8;
    private static final int MOST_STEERED = 5;
    private static final int MOST_BELLS = 9;
    private static final int ODDS = 10;
    private static final int IMAGES = 2;
    private static final int MOST_SEED = 999999;

    private final Play play = new Play();
    private final Play[] images = new Play[IMAGES];
    private final boolean[] kept = new boolean[IMAGES];
    private final TextReader reader = new TextReader();
    private final Wheel wheel = new Wheel();
    private long above = 0;
    private long below = 1;
    private int refusedBad = 0;
    private int refusedNo = 0;
    private int refusedFull = 0;

    public BumperCars() {
        for (int i = 0; i < IMAGES; i++) {
            images[i] = new Play();
        }
    }

    // ---- a floor

    public int floor() {
        int before = play.floor.cars;
        play.restart();
        return before;
    }

    public int car(int kind, int cell, int way) {
        if (!within(kind, KINDS) || !within(cell, CELLS) || !within(way, WAYS)) {
            return bad(BAD);
        }
        if (play.floor.carIn(cell) != NONE) {
            return no();
        }
        if (play.floor.cars >= MOST_CARS) {
            return full();
        }
        play.undoable = 0;
        return play.floor.put(kind, cell, way);
    }

    public int type(int c) {
        if (c < 0 || c > 127) {
            return bad(BAD);
        }
        if (!reader.append(c)) {
            return full();
        }
        return reader.length;
    }

    public int clear() {
        int before = reader.length;
        reader.length = 0;
        return before;
    }

    public int read() {
        int fault = reader.readFloor();
        if (fault != NONE) {
            return -10 - fault;
        }
        play.restart();
        play.floor.copyOf(reader.told);
        return reader.items;
    }

    // ---- ticks

    public int tick(int n) {
        if (n < 1 || n > MOST_TICKS) {
            return bad(BAD);
        }
        play.keep();
        return play.floor.run(n);
    }

    public int hat(int k) {
        if (k != NONE && !play.floor.has(k)) {
            return bad(BAD_FAR);
        }
        int before = play.floor.hat;
        play.keep();
        play.floor.hat = k;
        return before;
    }

    public int push(int k, int cell, int way) {
        if (!play.floor.has(k) || !within(cell, CELLS) || !within(way, WAYS)) {
            return bad(BAD);
        }
        int there = play.floor.carIn(cell);
        if (there != NONE && there != k) {
            return no();
        }
        int before = play.floor.cells[k];
        play.keep();
        play.floor.cells[k] = cell;
        play.floor.ways[k] = way;
        return before;
    }

    public int undo() {
        if (!play.takeBack()) {
            return no();
        }
        return play.floor.tick;
    }

    public int of(int k, int what) {
        if (!play.floor.has(k) || !within(what, 7)) {
            return bad(BAD_FAR);
        }
        return play.floor.fact(k, what);
    }

    public int at(int cell) {
        if (!within(cell, CELLS)) {
            return bad(BAD_FAR);
        }
        return play.floor.carIn(cell);
    }

    // ---- what comes

    public int way(int k) {
        if (!play.floor.has(k)) {
            return bad(BAD);
        }
        return play.floor.choice(k);
    }

    public int then(int k, int m, int what) {
        if (!play.floor.has(k) || !within(m, MOST_TICKS + 1) || !within(what, 4)) {
            return bad(BAD);
        }
        Floor later = wheel.begin(play.floor);
        later.run(m);
        return later.fact(k, what + 1);
    }

    public int when(int k) {
        if (!play.floor.has(k)) {
            return bad(BAD);
        }
        Floor later = wheel.begin(play.floor);
        int before = later.struck[k];
        for (int m = 1; m <= MOST_TICKS; m++) {
            later.step(NONE, 0, NONE, 0);
            if (later.struck[k] > before) {
                return m;
            }
        }
        return NONE;
    }

    public int bumps(int m) {
        if (!within(m, MOST_TICKS + 1)) {
            return bad(BAD);
        }
        return wheel.begin(play.floor).run(m);
    }

    public int cluster(int what) {
        if (!within(what, 2)) {
            return bad(BAD);
        }
        int bits = play.floor.greatestCluster();
        return what == 0 ? Integer.bitCount(bits) : bits;
    }

    public int stand(int what) {
        if (!within(what, 2)) {
            return bad(BAD);
        }
        int cell = play.floor.nearestFreeCell();
        return what == 0 ? cell : play.floor.farFromAll(cell);
    }

    // ---- at the wheel

    public int steer(int k, int n, int what, int i) {
        if (!play.floor.has(k) || n < 1 || n > MOST_STEERED || !within(what, 2) || i < NONE) {
            return bad(BAD_FAR);
        }
        if (i >= n) {
            return NOT_SO_MANY;
        }
        int best = wheel.searchRow(play.floor, k, n, what == 1);
        return i == NONE ? best : wheel.bestRow[i];
    }

    public int note(int k, int t, int w, int a, int h, int f, int y) {
        boolean told = play.floor.has(k) && within(t, 100) && within(w, WAYS) && within(a, 3)
                && within(y, WAYS);
        if (!told || !wayOrNone(h) || !wayOrNone(f)) {
            return bad(BAD);
        }
        if (!play.notes.add(k, t, w, a, h, f, y)) {
            return full();
        }
        return play.notes.size;
    }

    public int forget() {
        int before = play.notes.size;
        play.notes.size = 0;
        return before;
    }

    public int is(int k) {
        if (!play.floor.has(k)) {
            return bad(BAD);
        }
        return play.notes.kindsOf(k);
    }

    public int look(int k) {
        if (!play.floor.has(k)) {
            return bad(BAD);
        }
        return wheel.bestLook(play.floor, k, play.notes.kindsOf(k));
    }

    public int two(int p, int q, int k) {
        if (!play.floor.has(p) || !play.floor.has(q) || p == q || k < NONE) {
            return bad(BAD_FAR);
        }
        int rests = wheel.restingPairs(play.floor, p, q);
        if (k == NONE) {
            return Integer.bitCount(rests);
        }
        return bitOfRank(rests, k);
    }

    public int bell(int n, int c) {
        if (!within(n, MOST_BELLS + 1) || !within(c, ODDS + 1)) {
            return bad(BAD);
        }
        putFraction(wheel.bumpsByOdds(play.floor, n, c), powerOfTen(n));
        return 1;
    }

    public int rounds(int seed, int n) {
        if (seed < 0 || seed > MOST_SEED || !within(n, MOST_TICKS + 1)) {
            return bad(BAD);
        }
        if (play.floor.cars == 0) {
            return no();
        }
        return wheel.begin(play.floor).runBySeed(seed, n);
    }

    // ---- what there is

    public long part(int what) {
        if (!within(what, 2)) {
            return bad(BAD);
        }
        return what == 0 ? above : below;
    }

    public int image(int i) {
        if (!within(i, IMAGES)) {
            return bad(BAD);
        }
        images[i].copyOf(play);
        kept[i] = true;
        return 1;
    }

    public int from(int i) {
        if (!within(i, IMAGES)) {
            return bad(BAD);
        }
        if (!kept[i]) {
            return no();
        }
        play.copyOf(images[i]);
        return 1;
    }

    public int status(int what) {
        if (!within(what, 3)) {
            return bad(-1);
        }
        if (what == 0) {
            return refusedBad;
        }
        return what == 1 ? refusedNo : refusedFull;
    }

    public int count(int what) {
        if (!within(what, 6)) {
            return bad(BAD);
        }
        return howMany(what);
    }

    public long digest() {
        long h = 1301;
        for (int what = 0; what < 6; what++) {
            h = 31 * h + howMany(what);
        }
        h = play.floor.addTo(h);
        h = play.notes.addTo(h);
        h = 31 * h + above;
        return 31 * h + below;
    }

    // ---- helpers

    private int howMany(int what) {
        switch (what) {
            case 0: return play.floor.cars;
            case 1: return play.floor.tick;
            case 2: return play.floor.givenByAll();
            case 3: return play.notes.size;
            case 4: return play.undoable;
            default: return reader.length;
        }
    }

    private int bad(int answer) {
        refusedBad++;
        return answer;
    }

    private int no() {
        refusedNo++;
        return NO;
    }

    private int full() {
        refusedFull++;
        return FULL;
    }

    private void putFraction(long upper, long lower) {
        long divisor = commonDivisor(upper, lower);
        if (divisor > 0) {
            above = upper / divisor;
            below = lower / divisor;
        }
    }

    /** The bound is far above the steps that two longs can need. */
    private static long commonDivisor(long a, long b) {
        for (int i = 0; i < 200 && b != 0; i++) {
            long left = a % b;
            a = b;
            b = left;
        }
        return a;
    }

    private static long powerOfTen(int n) {
        long power = 1;
        for (int i = 0; i < n; i++) {
            power *= ODDS;
        }
        return power;
    }

    private static int bitOfRank(int bits, int rank) {
        int seen = 0;
        for (int i = 0; i < WAYS * WAYS; i++) {
            if ((bits >> i & 1) == 1) {
                if (seen == rank) {
                    return i;
                }
                seen++;
            }
        }
        return NOT_SO_MANY;
    }

    private static boolean within(int x, int limit) {
        return x >= 0 && x < limit;
    }

    private static boolean wayOrNone(int way) {
        return way == NONE || within(way, WAYS);
    }

    /** What the kinds of drivers do, each by the one that it stands under. */
    private static final class Drivers {
        static int rightOf(int way) {
            return (way + 1) % WAYS;
        }

        static int takes(int kind, int t, int w, int a, int h, int f) {
            int right = rightOf(w);
            int plain = a == 1 ? right : w;
            int chaser = h == NONE ? plain : h;
            int avoids = a == 2 ? right : plain;
            switch (kind) {
                case 0: return plain;
                case 1: return chaser;
                case 2: return avoids;
                case 3: return f == NONE ? chaser : f;
                case 4: return t % 2 == 1 ? right : plain;
                default: return t % 3 == 0 ? w : avoids;
            }
        }
    }

    /** The cars, the hat and the tick: what a tick changes. */
    private static final class Floor {
        final int[] kinds = new int[MOST_CARS];
        final int[] cells = new int[MOST_CARS];
        final int[] ways = new int[MOST_CARS];
        final int[] struck = new int[MOST_CARS];
        final int[] given = new int[MOST_CARS];
        final int[] foes = new int[MOST_CARS];
        int cars = 0;
        int hat = NONE;
        int tick = 0;

        void empty() {
            cars = 0;
            hat = NONE;
            tick = 0;
        }

        void copyOf(Floor other) {
            System.arraycopy(other.kinds, 0, kinds, 0, MOST_CARS);
            System.arraycopy(other.cells, 0, cells, 0, MOST_CARS);
            System.arraycopy(other.ways, 0, ways, 0, MOST_CARS);
            System.arraycopy(other.struck, 0, struck, 0, MOST_CARS);
            System.arraycopy(other.given, 0, given, 0, MOST_CARS);
            System.arraycopy(other.foes, 0, foes, 0, MOST_CARS);
            cars = other.cars;
            hat = other.hat;
            tick = other.tick;
        }

        boolean has(int k) {
            return k >= 0 && k < cars;
        }

        int put(int kind, int cell, int way) {
            int k = cars;
            if (k >= MOST_CARS) {
                return FULL;
            }
            kinds[k] = kind;
            cells[k] = cell;
            ways[k] = way;
            struck[k] = 0;
            given[k] = 0;
            foes[k] = NONE;
            cars = k + 1;
            return k;
        }

        int carIn(int cell) {
            for (int k = 0; k < cars; k++) {
                if (cells[k] == cell) {
                    return k;
                }
            }
            return NONE;
        }

        static int nextCell(int cell, int way) {
            int row = cell / COLUMNS;
            int column = cell % COLUMNS;
            switch (way) {
                case 0: return column + 1 < COLUMNS ? cell + 1 : NONE;
                case 1: return row + 1 < ROWS ? cell + COLUMNS : NONE;
                case 2: return column > 0 ? cell - 1 : NONE;
                default: return row > 0 ? cell - COLUMNS : NONE;
            }
        }

        int ahead(int k) {
            int next = nextCell(cells[k], ways[k]);
            if (next == NONE) {
                return 1;
            }
            return carIn(next) == NONE ? 0 : 2;
        }

        /** The way from one car towards another; none towards nobody or oneself. */
        int towards(int k, int other) {
            if (!has(other) || other == k) {
                return NONE;
            }
            int columns = cells[other] % COLUMNS - cells[k] % COLUMNS;
            int rows = cells[other] / COLUMNS - cells[k] / COLUMNS;
            if (Math.abs(columns) >= Math.abs(rows)) {
                return columns > 0 ? 0 : 2;
            }
            return rows > 0 ? 1 : 3;
        }

        int choice(int k) {
            return Drivers.takes(kinds[k], tick, ways[k], ahead(k), towards(k, hat), towards(k, foes[k]));
        }

        int fact(int k, int what) {
            switch (what) {
                case 0: return kinds[k];
                case 1: return cells[k];
                case 2: return ways[k];
                case 3: return struck[k];
                case 4: return given[k];
                case 5: return foes[k];
                default: return ahead(k);
            }
        }

        /** One tick, in which p and q (NONE: nobody) take the ways told: the bumps in it. */
        int step(int p, int wayOfP, int q, int wayOfQ) {
            int bumped = 0;
            for (int k = 0; k < cars; k++) {
                int taken = k == p ? wayOfP : k == q ? wayOfQ : choice(k);
                bumped += drive(k, taken);
            }
            tick++;
            return bumped;
        }

        private int drive(int k, int taken) {
            int next = nextCell(cells[k], taken);
            if (next == NONE) {
                ways[k] = Drivers.rightOf(taken);
                return 0;
            }
            int other = carIn(next);
            if (other == NONE) {
                ways[k] = taken;
                cells[k] = next;
                return 0;
            }
            struck[other]++;
            foes[other] = k;
            given[k]++;
            ways[k] = (taken + 2) % WAYS;
            return 1;
        }

        int run(int n) {
            int bumped = 0;
            for (int i = 0; i < n; i++) {
                bumped += step(NONE, 0, NONE, 0);
            }
            return bumped;
        }

        int runBySeed(int seed, int n) {
            if (cars == 0) {
                return 0;
            }
            long x = seed;
            int bumped = 0;
            for (int i = 0; i < n; i++) {
                x = (x * 1103515245L + 12345L) % 2147483648L;
                int k = (int) (x / 65536L % cars);
                ways[k] = (int) (x / 1048576L % WAYS);
                bumped += step(NONE, 0, NONE, 0);
            }
            return bumped;
        }

        int givenByAll() {
            int sum = 0;
            for (int k = 0; k < cars; k++) {
                sum += given[k];
            }
            return sum;
        }

        static int distance(int a, int b) {
            return Math.abs(a / COLUMNS - b / COLUMNS) + Math.abs(a % COLUMNS - b % COLUMNS);
        }

        /** The clusters come by their least car, so that only a greater one takes the place. */
        int greatestCluster() {
            int best = 0;
            for (int k = 0; k < cars; k++) {
                int bits = clusterWith(k);
                if (Integer.bitCount(bits) > Integer.bitCount(best)) {
                    best = bits;
                }
            }
            return best;
        }

        private int clusterWith(int k) {
            int bits = 1 << k;
            for (int round = 1; round < cars; round++) {
                for (int j = 0; j < cars; j++) {
                    if (touches(j, bits)) {
                        bits |= 1 << j;
                    }
                }
            }
            return bits;
        }

        private boolean touches(int j, int bits) {
            for (int i = 0; i < cars; i++) {
                if ((bits >> i & 1) == 1 && distance(cells[i], cells[j]) == 1) {
                    return true;
                }
            }
            return false;
        }

        int nearestFreeCell() {
            int best = NONE;
            int least = 0;
            for (int cell = 0; cell < CELLS; cell++) {
                if (carIn(cell) == NONE) {
                    int far = farFromAll(cell);
                    if (best == NONE || far < least) {
                        best = cell;
                        least = far;
                    }
                }
            }
            return best;
        }

        int farFromAll(int cell) {
            int sum = 0;
            for (int k = 0; k < cars; k++) {
                sum += distance(cells[k], cell);
            }
            return sum;
        }

        long addTo(long h) {
            h = 31 * h + hat;
            for (int k = 0; k < cars; k++) {
                for (int what = 0; what < 6; what++) {
                    h = 31 * h + fact(k, what);
                }
            }
            return h;
        }
    }

    /** What was seen of drivers, as it came. */
    private static final class Notes {
        private static final int WIDTH = 7;
        private final int[] rows = new int[MOST_NOTES * WIDTH];
        int size = 0;

        void copyOf(Notes other) {
            System.arraycopy(other.rows, 0, rows, 0, MOST_NOTES * WIDTH);
            size = other.size;
        }

        boolean add(int k, int t, int w, int a, int h, int f, int y) {
            if (size >= MOST_NOTES) {
                return false;
            }
            int at = size * WIDTH;
            rows[at] = k;
            rows[at + 1] = t;
            rows[at + 2] = w;
            rows[at + 3] = a;
            rows[at + 4] = h;
            rows[at + 5] = f;
            rows[at + 6] = y;
            size++;
            return true;
        }

        int kindsOf(int k) {
            int bits = 0;
            for (int kind = 0; kind < KINDS; kind++) {
                if (fits(k, kind)) {
                    bits |= 1 << kind;
                }
            }
            return bits;
        }

        private boolean fits(int k, int kind) {
            for (int i = 0; i < size; i++) {
                int at = i * WIDTH;
                if (rows[at] == k) {
                    int taken = Drivers.takes(kind, rows[at + 1], rows[at + 2], rows[at + 3],
                            rows[at + 4], rows[at + 5]);
                    if (taken != rows[at + 6]) {
                        return false;
                    }
                }
            }
            return true;
        }

        long addTo(long h) {
            for (int i = 0; i < size * WIDTH; i++) {
                h = 31 * h + rows[i];
            }
            return h;
        }
    }

    /** All that an image keeps: the floor, the notes, and what may be undone. */
    private static final class Play {
        final Floor floor = new Floor();
        final Notes notes = new Notes();
        private final Floor[] past = new Floor[MOST_UNDO];
        int undoable = 0;

        Play() {
            for (int i = 0; i < MOST_UNDO; i++) {
                past[i] = new Floor();
            }
        }

        void restart() {
            floor.empty();
            notes.size = 0;
            undoable = 0;
        }

        void copyOf(Play other) {
            floor.copyOf(other.floor);
            notes.copyOf(other.notes);
            undoable = other.undoable;
            for (int i = 0; i < undoable && i < MOST_UNDO; i++) {
                past[i].copyOf(other.past[i]);
            }
        }

        /** Keeps the floor ahead of a change; the oldest one goes, if there are too many. */
        void keep() {
            if (undoable >= MOST_UNDO) {
                Floor oldest = past[0];
                for (int i = 1; i < MOST_UNDO; i++) {
                    past[i - 1] = past[i];
                }
                past[MOST_UNDO - 1] = oldest;
                undoable = MOST_UNDO - 1;
            }
            past[undoable].copyOf(floor);
            undoable++;
        }

        boolean takeBack() {
            if (undoable <= 0) {
                return false;
            }
            undoable--;
            floor.copyOf(past[undoable]);
            return true;
        }
    }

    /** The text of a floor, and its reading into a floor beside the one in use. */
    private static final class TextReader {
        private static final int END = 0, WORD = 1, NUMBER = 2, STOP = 3, OTHER = 4;
        private final byte[] bytes = new byte[MOST_BYTES];
        int length = 0;
        final Floor told = new Floor();
        int items = 0;
        private int place = 0;
        private int next = 0;
        private int token = END;
        private int number = 0;

        boolean append(int c) {
            if (length >= MOST_BYTES) {
                return false;
            }
            bytes[length] = (byte) c;
            length++;
            return true;
        }

        /** NONE, or the fault. No text has more items than bytes. */
        int readFloor() {
            told.empty();
            items = 0;
            next = 0;
            for (int i = 0; i <= length; i++) {
                advance();
                if (token == END && items > 0) {
                    return NONE;
                }
                if (!readItem()) {
                    return place;
                }
                items++;
            }
            return place;
        }

        private boolean readItem() {
            if (token != WORD) {
                return false;
            }
            if (items == 0) {
                return wordIs("floor") && stops();
            }
            if (wordIs("car")) {
                return told.cars < MOST_CARS && readCar();
            }
            if (wordIs("hat")) {
                return readHat();
            }
            return wordIs("foe") && readFoe();
        }

        private boolean readCar() {
            if (!numberBelow(KINDS)) {
                return false;
            }
            int kind = number;
            if (!numberBelow(CELLS) || told.carIn(number) != NONE) {
                return false;
            }
            int cell = number;
            if (!numberBelow(WAYS)) {
                return false;
            }
            told.put(kind, cell, number);
            return stops();
        }

        private boolean readHat() {
            if (!numberBelow(told.cars)) {
                return false;
            }
            told.hat = number;
            return stops();
        }

        private boolean readFoe() {
            if (!numberBelow(told.cars)) {
                return false;
            }
            int k = number;
            if (!numberBelow(told.cars) || number == k) {
                return false;
            }
            told.foes[k] = number;
            return stops();
        }

        private boolean stops() {
            advance();
            return token == STOP;
        }

        private boolean numberBelow(int limit) {
            advance();
            return token == NUMBER && number < limit;
        }

        private boolean wordIs(String word) {
            int size = next - place;
            if (size != word.length()) {
                return false;
            }
            for (int i = 0; i < size; i++) {
                if (bytes[place + i] != word.charAt(i)) {
                    return false;
                }
            }
            return true;
        }

        /** Goes on to the next token: from its place up to next. */
        private void advance() {
            passAll(' ', ' ');
            place = next;
            if (next >= length) {
                token = END;
            } else if (passAll('a', 'z')) {
                token = WORD;
            } else if (passAll('0', '9')) {
                takeNumber();
            } else {
                token = bytes[next] == ';' ? STOP : OTHER;
                next++;
            }
        }

        /** Passes the run of bytes from first to last that begins here: whether there was one. */
        private boolean passAll(char first, char last) {
            int start = next;
            while (next < length && bytes[next] >= first && bytes[next] <= last) {
                next++;
            }
            return next > start;
        }

        /** The run of figures just passed: one or two of them are a number, more are none. */
        private void takeNumber() {
            int last = bytes[next - 1] - '0';
            int figures = next - place;
            number = figures == 1 ? last : 10 * (bytes[place] - '0') + last;
            token = figures <= 2 ? NUMBER : OTHER;
        }
    }

    /** What is tried out on copies of the floor, one for each tick gone ahead. */
    private static final class Wheel {
        private final Floor[] levels = new Floor[MOST_STEERED + 1];
        private final int[] row = new int[MOST_STEERED];
        final int[] bestRow = new int[MOST_STEERED];
        private final int[] gainsOfP = new int[WAYS * WAYS];
        private final int[] gainsOfQ = new int[WAYS * WAYS];
        private final int[] takers = new int[WAYS];
        private int best = 0;

        Wheel() {
            for (int i = 0; i <= MOST_STEERED; i++) {
                levels[i] = new Floor();
            }
        }

        Floor begin(Floor floor) {
            levels[0].copyOf(floor);
            return levels[0];
        }

        /**
         * The fewest times to be struck, or the most bumps to give. One gives at most one bump
         * in a tick, so the most given are the fewest ticks without: both searches want the least.
         */
        int searchRow(Floor floor, int k, int n, boolean hunts) {
            begin(floor);
            best = n * MOST_CARS + 1;
            searchFrom(0, k, n, hunts);
            return hunts ? n - best : best;
        }

        /** The rows come rising, so that only a better one takes the place of the first. */
        private void searchFrom(int depth, int k, int n, boolean hunts) {
            int cost = hunts ? depth - levels[depth].given[k] + levels[0].given[k]
                    : levels[depth].struck[k] - levels[0].struck[k];
            if (depth >= n || depth >= MOST_STEERED) {
                if (cost < best) {
                    best = cost;
                    System.arraycopy(row, 0, bestRow, 0, MOST_STEERED);
                }
                return;
            }
            for (int way = 0; way < WAYS && cost < best; way++) {
                row[depth] = way;
                Floor after = levels[depth + 1];
                after.copyOf(levels[depth]);
                after.step(k, way, NONE, 0);
                searchFrom(depth + 1, k, n, hunts);
            }
        }

        /** The pairs 4 i and j that rest, as bits. */
        int restingPairs(Floor floor, int p, int q) {
            for (int pair = 0; pair < WAYS * WAYS; pair++) {
                Floor after = begin(floor);
                after.step(p, pair / WAYS, q, pair % WAYS);
                gainsOfP[pair] = gain(floor, after, p);
                gainsOfQ[pair] = gain(floor, after, q);
            }
            int bits = 0;
            for (int pair = 0; pair < WAYS * WAYS; pair++) {
                if (rests(pair)) {
                    bits |= 1 << pair;
                }
            }
            return bits;
        }

        private static int gain(Floor before, Floor after, int k) {
            return after.given[k] - before.given[k] - (after.struck[k] - before.struck[k]);
        }

        private boolean rests(int pair) {
            int i = pair / WAYS;
            int j = pair % WAYS;
            for (int other = 0; other < WAYS; other++) {
                if (gainsOfP[other * WAYS + j] > gainsOfP[pair]
                        || gainsOfQ[i * WAYS + other] > gainsOfQ[pair]) {
                    return false;
                }
            }
            return true;
        }

        /**
         * The mean of the bumps in the next n ticks, times 10 to the power n. Once the bell has
         * rung all stand for good, so a tick counts by the odds that it has not rung up to then.
         */
        long bumpsByOdds(Floor floor, int n, int c) {
            Floor after = begin(floor);
            long silent = 1;
            long sum = 0;
            for (int i = 0; i < n; i++) {
                silent *= ODDS - c;
                sum = sum * ODDS + silent * after.step(NONE, 0, NONE, 0);
            }
            return sum;
        }

        /** 10 t and a by which the kinds told part best; none, if there is no kind. */
        int bestLook(Floor floor, int k, int kinds) {
            if (kinds == 0) {
                return NONE;
            }
            int found = NONE;
            int fewest = KINDS + 1;
            for (int t = 0; t < 6; t++) {
                for (int a = 0; a < 3; a++) {
                    int alike = mostAlike(floor, k, kinds, t, a);
                    if (alike < fewest) {
                        fewest = alike;
                        found = 10 * t + a;
                    }
                }
            }
            return found;
        }

        private int mostAlike(Floor floor, int k, int kinds, int t, int a) {
            int w = floor.ways[k];
            int h = floor.towards(k, floor.hat);
            int f = floor.towards(k, floor.foes[k]);
            for (int way = 0; way < WAYS; way++) {
                takers[way] = 0;
            }
            int most = 0;
            for (int kind = 0; kind < KINDS; kind++) {
                if ((kinds >> kind & 1) == 1) {
                    int taken = Drivers.takes(kind, t, w, a, h, f);
                    takers[taken]++;
                    most = Math.max(most, takers[taken]);
                }
            }
            return most;
        }
    }
}
