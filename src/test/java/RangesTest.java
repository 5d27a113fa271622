import java.util.function.ToLongFunction;

/**
 * Every number of every call: the last that is as told and the first that is not, on both sides, with the
 * other numbers at both their ends; in each scene, so that a CAR is told up to the last one there is.
 */
public final class RangesTest {
    private static final int BAD = BumperCars.BAD;
    private static final int FAR = -10;
    private static final int[] CELL = {0, 23};
    private static final int[] WAY = {0, 3};
    private static final int[] WAY_OR_NONE = {-1, 3};
    private static final int[] TICKS = {0, 60};
    private static final int[] RANK = {-1, Integer.MAX_VALUE};

    private interface Call {
        long by(BumperCars x, int[] a);
    }

    public static void main(String[] args) {
        for (Scene scene : Scene.values()) {
            floor(scene);
            ticks(scene);
            comes(scene);
            wheel(scene);
            kept(scene);
        }
        twoCars();
        Check.end();
    }

    private static void floor(Scene s) {
        ranges(s, "car", (x, a) -> x.car(a[0], a[1], a[2]), BAD, new int[] {0, 5}, CELL, WAY);
        ranges(s, "type", (x, a) -> x.type(a[0]), BAD, new int[] {0, 127});
    }

    private static void ticks(Scene s) {
        int[] car = {0, s.cars - 1};
        ranges(s, "tick", (x, a) -> x.tick(a[0]), BAD, new int[] {1, 60});
        ranges(s, "hat", (x, a) -> x.hat(a[0]), FAR, new int[] {-1, s.cars - 1});
        ranges(s, "push", (x, a) -> x.push(a[0], a[1], a[2]), BAD, car, CELL, WAY);
        ranges(s, "of", (x, a) -> x.of(a[0], a[1]), FAR, car, new int[] {0, 6});
        ranges(s, "at", (x, a) -> x.at(a[0]), FAR, CELL);
    }

    private static void comes(Scene s) {
        int[] car = {0, s.cars - 1};
        ranges(s, "way", (x, a) -> x.way(a[0]), BAD, car);
        ranges(s, "then", (x, a) -> x.then(a[0], a[1], a[2]), BAD, car, TICKS, new int[] {0, 3});
        ranges(s, "when", (x, a) -> x.when(a[0]), BAD, car);
        ranges(s, "bumps", (x, a) -> x.bumps(a[0]), BAD, TICKS);
        ranges(s, "cluster", (x, a) -> x.cluster(a[0]), BAD, new int[] {0, 1});
        ranges(s, "stand", (x, a) -> x.stand(a[0]), BAD, new int[] {0, 1});
    }

    private static void wheel(Scene s) {
        int[] car = {0, s.cars - 1};
        ranges(s, "steer", (x, a) -> x.steer(a[0], a[1], a[2], a[3]), FAR, car, new int[] {1, 5}, new int[] {0, 1}, RANK);
        ranges(s, "note", (x, a) -> x.note(a[0], a[1], a[2], a[3], a[4], a[5], a[6]), BAD, car, new int[] {0, 99}, WAY,
            new int[] {0, 2}, WAY_OR_NONE, WAY_OR_NONE, WAY);
        ranges(s, "is", (x, a) -> x.is(a[0]), BAD, car);
        ranges(s, "look", (x, a) -> x.look(a[0]), BAD, car);
        ranges(s, "bell", (x, a) -> x.bell(a[0], a[1]), BAD, new int[] {0, 9}, new int[] {0, 10});
        ranges(s, "rounds", (x, a) -> x.rounds(a[0], a[1]), BAD, new int[] {0, 999999}, TICKS);
    }

    private static void kept(Scene s) {
        ranges(s, "part", (x, a) -> x.part(a[0]), BAD, new int[] {0, 1});
        ranges(s, "image", (x, a) -> x.image(a[0]), BAD, new int[] {0, 1});
        ranges(s, "from", (x, a) -> x.from(a[0]), BAD, new int[] {0, 1});
        ranges(s, "status", (x, a) -> x.status(a[0]), -1, new int[] {0, 2});
        ranges(s, "count", (x, a) -> x.count(a[0]), BAD, new int[] {0, 5});
    }

    /** TWO unlike CARS: each of them up to the last one, never the same. */
    private static void twoCars() {
        for (Scene s : Scene.values()) {
            int last = s.cars - 1;
            for (int wrong : new int[] {-1, s.cars, Integer.MIN_VALUE, Integer.MAX_VALUE}) {
                s.bad("two(" + wrong + ", 0, -1)", x -> x.two(wrong, 0, -1), FAR);
                s.bad("two(0, " + wrong + ", -1)", x -> x.two(0, wrong, -1), FAR);
            }
            for (int k : new int[] {0, last, -1}) {
                s.bad("two(k, k, -1)", x -> x.two(k, k, -1), FAR);
            }
            if (last > 0) {
                for (int k : new int[] {-2, Integer.MIN_VALUE}) {
                    s.bad("two(0, last, " + k + ")", x -> x.two(0, last, k), FAR);
                }
                for (int k : new int[] {-1, 0, Integer.MAX_VALUE}) {
                    asTold(s, "two(0, last, " + k + ")", x -> x.two(0, last, k));
                    asTold(s, "two(last, 0, " + k + ")", x -> x.two(last, 0, k));
                }
            }
        }
    }

    private static void ranges(Scene scene, String name, Call call, long answer, int[]... bounds) {
        for (int corner = 0; corner < 1 << bounds.length; corner++) {
            int[] good = new int[bounds.length];
            boolean told = true;
            for (int j = 0; j < bounds.length; j++) {
                good[j] = bounds[j][corner >> j & 1];
                told &= bounds[j][0] <= bounds[j][1];
            }
            if (told) {
                asTold(scene, name + shown(good), x -> call.by(x, good));
            }
            for (int j = 0; j < bounds.length; j++) {
                beyond(scene, name, call, answer, good, j, bounds[j]);
            }
        }
    }

    private static void beyond(Scene scene, String name, Call call, long answer, int[] good, int j, int[] bound) {
        long[] beside = {bound[0] - 1L, bound[1] + 1L, Integer.MIN_VALUE, Integer.MAX_VALUE};
        for (long one : beside) {
            if (one < bound[0] && one >= Integer.MIN_VALUE || one > bound[1] && one <= Integer.MAX_VALUE) {
                int[] wrong = good.clone();
                wrong[j] = (int) one;
                scene.bad(name + shown(wrong), x -> call.by(x, wrong), answer);
            }
        }
    }

    /** Numbers as told may be refused on another ground, never as BAD. */
    private static void asTold(Scene scene, String call, ToLongFunction<BumperCars> made) {
        BumperCars x = scene.made();
        int before = x.status(0);
        made.applyAsLong(x);
        Check.due(scene + ": " + call + " is not BAD", x.status(0), before);
    }

    private static String shown(int[] numbers) {
        StringBuilder s = new StringBuilder("(");
        for (int i = 0; i < numbers.length; i++) {
            s.append(i > 0 ? ", " : "").append(numbers[i]);
        }
        return s.append(')').toString();
    }
}
