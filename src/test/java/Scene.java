import java.util.ArrayList;
import java.util.List;
import java.util.function.Supplier;
import java.util.function.ToLongFunction;

/**
 * Objects brought to a state by calls, and all that can be seen of one. A refused call is made on one of
 * two twins, so that what digest does not tell (what is undone, images, the bytes of the text) is compared, too.
 */
enum Scene {
    /** A new object. */
    NEW(0, 0),
    /** One car alone. */
    ONE(1, 0),
    /** Something of all there is, none of it full; image 1 was not kept. */
    RICH(3, 1),
    /** 5 cars, 6 notes, 150 bytes, 8 that may be undone, both images. */
    FULL(5, 2);

    static final String TEXT = "floor;car 3 7 0;car 1 8 2;car 4 14 3;hat 2;foe 0 1;";

    final int cars;
    final int images;

    Scene(int cars, int images) {
        this.cars = cars;
        this.images = images;
    }

    BumperCars made() {
        BumperCars x = new BumperCars();
        if (this == ONE) {
            x.car(5, 23, 3);
        } else if (this == RICH) {
            makeRich(x);
        } else if (this == FULL) {
            makeFull(x);
        }
        return x;
    }

    private static void makeRich(BumperCars x) {
        Check.read(x, TEXT);
        x.tick(2);
        x.hat(1);
        x.note(1, 5, 2, 0, 1, -1, 1);
        x.image(0);
        x.tick(3);
        x.push(2, 20, 1);
        x.note(0, 4, 1, 2, -1, 3, 3);
        x.bell(3, 4);
        x.undo();
        x.hat(0);
        x.of(9, 9);
        x.from(1);
    }

    private static void makeFull(BumperCars x) {
        int[][] cars = {{1, 7, 0}, {2, 8, 1}, {3, 9, 2}, {4, 10, 3}, {5, 11, 0}};
        for (int[] c : cars) {
            x.car(c[0], c[1], c[2]);
        }
        x.hat(4);
        x.image(0);
        for (int i = 0; i < 6; i++) {
            x.note(i % 5, i, i % 4, 0, -1, -1, i % 4);
            x.tick(i + 1);
        }
        x.image(1);
        x.hat(2);
        x.push(0, x.of(0, 1), 3);
        x.tick(1);
        x.bell(4, 3);
        Check.type(x, TEXT);
        while (x.count(5) < 150) {
            x.type(' ');
        }
        x.car(0, 24, 0);
        x.type(0);
    }

    /** All that can be seen of an object; the first three are the status. It is spent by this. */
    static List<Long> whole(BumperCars x) {
        List<Long> seen = new ArrayList<>();
        for (int what = 0; what < 3; what++) {
            seen.add((long) x.status(what));
        }
        addPast(x, seen);
        for (int i = 0; i < 2; i++) {
            seen.add((long) x.from(i));
            addPast(x, seen);
        }
        seen.add((long) x.read());
        addPast(x, seen);
        return seen;
    }

    /** The digest now and behind each undo. */
    private static void addPast(BumperCars x, List<Long> seen) {
        seen.add(x.digest());
        for (int i = 0; i < 9; i++) {
            seen.add((long) x.undo());
            seen.add(x.digest());
        }
    }

    /** A refused call: its answer, one counter of the status (-1: none), and nothing else. */
    static void refused(Supplier<BumperCars> made, String call, ToLongFunction<BumperCars> asked, long answer,
            int counter) {
        BumperCars x = made.get();
        Check.due(call, asked.applyAsLong(x), answer);
        List<Long> due = whole(made.get());
        if (counter >= 0) {
            due.set(counter, due.get(counter) + 1);
        }
        Check.that(call + ": nothing else has changed", whole(x).equals(due));
    }

    void bad(String call, ToLongFunction<BumperCars> asked, long answer) {
        refused(this::made, this + ": " + call, asked, answer, 0);
    }

    void no(String call, ToLongFunction<BumperCars> asked) {
        refused(this::made, this + ": " + call, asked, BumperCars.NO, 1);
    }

    void full(String call, ToLongFunction<BumperCars> asked) {
        refused(this::made, this + ": " + call, asked, BumperCars.FULL, 2);
    }

    /** An answered call that is no refusal and changes nothing. */
    void asked(String call, ToLongFunction<BumperCars> made, long answer) {
        refused(this::made, this + ": " + call, made, answer, -1);
    }
}
