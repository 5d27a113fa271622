import java.util.Random;

/** Runs of calls told by a seed, on the class and on the plain model: every answer must be the same. */
public final class ModelTest {
    private static final int RUNS = 400;
    private static final int CALLS = 512;
    private static final String[] PIECES = {"floor;", "floor", "car ", "car", "hat ", "foe ", ";", " ", "0", "1", "2",
        "3", "4", "5 ", "23 ", "24", "100", "x", "-", ";;", "floor;car 0 7 0;", "hats", "\t", "12 "};

    private final Random random;
    private final int run;
    private final BumperCars x = new BumperCars();
    private final Model y = new Model();
    private String typed = "";
    private int made = 0;

    private ModelTest(int run) {
        this.run = run;
        this.random = new Random(run);
    }

    public static void main(String[] args) {
        for (int run = 1; run <= RUNS; run++) {
            new ModelTest(run).play();
        }
        Check.end();
    }

    private void play() {
        boolean wild = run % 4 == 0;
        while (made < CALLS - 3) {
            if (typed.isEmpty()) {
                call(random.nextInt(31), wild ? 4 : 24);
            } else {
                typeOne();
            }
        }
        while (made < CALLS) {
            same("digest()", x.digest(), y.digest());
        }
    }

    private void same(String call, long got, long want) {
        made++;
        Check.due("run " + run + ": " + call, got, want);
    }

    private void typeOne() {
        int c = typed.charAt(0);
        typed = typed.substring(1);
        same("type(" + c + ")", x.type(c), y.type(c));
        if (typed.isEmpty()) {
            same("read()", x.read(), y.read());
            same("digest()", x.digest(), y.digest());
        }
    }

    /** A number of least .. most, and now and then one beside it. */
    private int some(int least, int most, int odds) {
        if (random.nextInt(odds) == 0) {
            int[] beside = {least - 1, most + 1, Integer.MIN_VALUE, Integer.MAX_VALUE, -1, -2};
            return beside[random.nextInt(beside.length)];
        }
        return least + random.nextInt(most - least + 1);
    }

    private int car(int odds) {
        return some(0, Math.max(0, y.count(0) - 1), odds);
    }

    private String text() {
        StringBuilder s = new StringBuilder();
        if (random.nextInt(3) == 0) {
            for (int i = random.nextInt(8); i >= 0; i--) {
                s.append(PIECES[random.nextInt(PIECES.length)]);
            }
            return s.toString();
        }
        s.append(random.nextInt(8) == 0 ? " floor ;" : "floor;");
        int cars = random.nextInt(6);
        for (int i = 0; i < cars; i++) {
            s.append("car ").append(random.nextInt(6)).append(' ').append(random.nextInt(24)).append(' ');
            s.append(random.nextInt(4)).append(';');
        }
        if (random.nextInt(2) == 0) {
            s.append("hat ").append(random.nextInt(cars + 1)).append(';');
        }
        if (random.nextInt(2) == 0) {
            s.append("foe ").append(random.nextInt(cars + 1)).append(' ').append(random.nextInt(cars + 1)).append(';');
        }
        if (random.nextInt(4) == 0) {
            int at = random.nextInt(s.length());
            s.replace(at, at + 1, PIECES[random.nextInt(PIECES.length)]);
        }
        return s.toString();
    }

    private void call(int which, int odds) {
        if (which < 9) {
            changes(which, odds);
        } else if (which < 17) {
            asks(which, odds);
        } else if (which < 25) {
            steers(which, odds);
        } else {
            keeps(which, odds);
        }
    }

    private void changes(int which, int o) {
        int a = car(o);
        int b = some(0, 23, o);
        int c = some(0, 3, o);
        switch (which) {
            case 0:
                if (random.nextInt(6) == 0) {
                    same("floor()", x.floor(), y.floor());
                }
                break;
            case 1:
            case 2:
                int kind = some(0, 5, o);
                same("car(" + kind + ", " + b + ", " + c + ")", x.car(kind, b, c), y.car(kind, b, c));
                break;
            case 3:
                if (random.nextInt(4) == 0) {
                    same("clear()", x.clear(), y.clear());
                    typed = text();
                }
                break;
            case 4:
                same("read()", x.read(), y.read());
                break;
            case 5:
                int n = some(1, random.nextBoolean() ? 3 : 60, o);
                same("tick(" + n + ")", x.tick(n), y.tick(n));
                break;
            case 6:
                int k = random.nextInt(4) == 0 ? -1 : a;
                same("hat(" + k + ")", x.hat(k), y.hat(k));
                break;
            case 7:
                same("push(" + a + ", " + b + ", " + c + ")", x.push(a, b, c), y.push(a, b, c));
                break;
            default:
                same("undo()", x.undo(), y.undo());
                break;
        }
    }

    private void asks(int which, int o) {
        int k = car(o);
        int m = some(0, 60, o);
        int one = some(0, 1, o);
        switch (which) {
            case 9:
                int what = some(0, 6, o);
                same("of(" + k + ", " + what + ")", x.of(k, what), y.of(k, what));
                break;
            case 10:
                int cell = some(0, 23, o);
                same("at(" + cell + ")", x.at(cell), y.at(cell));
                break;
            case 11:
                same("way(" + k + ")", x.way(k), y.way(k));
                break;
            case 12:
                int w = some(0, 3, o);
                same("then(" + k + ", " + m + ", " + w + ")", x.then(k, m, w), y.then(k, m, w));
                break;
            case 13:
                same("when(" + k + ")", x.when(k), y.when(k));
                break;
            case 14:
                same("bumps(" + m + ")", x.bumps(m), y.bumps(m));
                break;
            case 15:
                same("cluster(" + one + ")", x.cluster(one), y.cluster(one));
                break;
            default:
                same("stand(" + one + ")", x.stand(one), y.stand(one));
                break;
        }
    }

    private void steers(int which, int o) {
        int k = car(o);
        int n = some(1, random.nextInt(10) == 0 ? 5 : 3, o);
        switch (which) {
            case 17:
                int what = some(0, 1, o);
                int i = some(-1, 4, o);
                same("steer(" + k + ", " + n + ", " + what + ", " + i + ")", x.steer(k, n, what, i), y.steer(k, n, what, i));
                break;
            case 18:
                int[] v = {k, some(0, 99, o), some(0, 3, o), some(0, 2, o), some(-1, 3, o), some(-1, 3, o), some(0, 3, o)};
                if (random.nextInt(4) > 0) {
                    v[6] = Model.by((run + k & 7) % 6, v[1], v[2] & 3, v[3], v[4], v[5]);
                }
                same("note", x.note(v[0], v[1], v[2], v[3], v[4], v[5], v[6]),
                    y.note(v[0], v[1], v[2], v[3], v[4], v[5], v[6]));
                break;
            case 19:
                if (random.nextInt(4) == 0) {
                    same("forget()", x.forget(), y.forget());
                }
                break;
            case 20:
                same("is(" + k + ")", x.is(k), y.is(k));
                break;
            case 21:
                same("look(" + k + ")", x.look(k), y.look(k));
                break;
            case 22:
                int q = car(o);
                int r = some(-1, 16, o);
                same("two(" + k + ", " + q + ", " + r + ")", x.two(k, q, r), y.two(k, q, r));
                break;
            case 23:
                int t = some(0, 9, o);
                int c = some(0, 10, o);
                same("bell(" + t + ", " + c + ")", x.bell(t, c), y.bell(t, c));
                break;
            default:
                int seed = some(0, 999999, o);
                int m = some(0, 60, o);
                same("rounds(" + seed + ", " + m + ")", x.rounds(seed, m), y.rounds(seed, m));
                break;
        }
    }

    private void keeps(int which, int o) {
        int one = some(0, 1, o);
        switch (which) {
            case 25:
                same("part(" + one + ")", x.part(one), y.part(one));
                break;
            case 26:
                same("image(" + one + ")", x.image(one), y.image(one));
                break;
            case 27:
                if (random.nextInt(2) == 0) {
                    same("from(" + one + ")", x.from(one), y.from(one));
                }
                break;
            case 28:
                int s = some(0, 2, o);
                same("status(" + s + ")", x.status(s), y.status(s));
                break;
            case 29:
                int c = some(0, 5, o);
                same("count(" + c + ")", x.count(c), y.count(c));
                break;
            default:
                same("digest()", x.digest(), y.digest());
                break;
        }
    }
}
