import java.util.function.ToLongFunction;

/** "An object is used for at most 512 calls after it has been made": the last of them answers as the first. */
public final class CallsTest {
    private static final int CALLS = 512;

    public static void main(String[] args) {
        ticks();
        strikes();
        refusals();
        undoneAgainAndAgain();
        typedAndCleared();
        notedAndForgotten();
        imagesAgainAndAgain();
        dearestCalls();
        callsBeyond();
        Check.end();
    }

    private static void repeat(BumperCars x, int times, ToLongFunction<BumperCars> call) {
        for (int i = 0; i < times; i++) {
            call.applyAsLong(x);
        }
    }

    private static void ticks() {
        BumperCars x = new BumperCars();
        repeat(x, CALLS - 1, y -> y.tick(60));
        Check.due("the tick behind all", x.count(1), 60L * (CALLS - 1));
    }

    /** Two revengeful ones strike one another in every tick. */
    private static void strikes() {
        for (int asked = 0; asked < 4; asked++) {
            BumperCars x = new BumperCars();
            x.car(3, 7, 0);
            x.car(3, 8, 2);
            repeat(x, CALLS - 3, y -> y.tick(60));
            long each = 60L * (CALLS - 3);
            long got = asked == 0 ? x.count(2) : asked == 1 ? x.of(0, 3) : asked == 2 ? x.then(1, 60, 3) : x.bumps(60);
            Check.due("strikes " + asked, got, asked == 0 ? 2 * each : asked == 1 ? each : asked == 2 ? each + 60 : 120);
        }
    }

    private static void refusals() {
        BumperCars bad = new BumperCars();
        repeat(bad, CALLS - 1, x -> x.tick(0));
        Check.due("as BAD", bad.status(0), CALLS - 1);
        BumperCars no = new BumperCars();
        repeat(no, CALLS - 1, x -> x.undo());
        Check.due("as NO", no.status(1), CALLS - 1);
        BumperCars full = new BumperCars();
        repeat(full, CALLS - 1, x -> x.type(0));
        Check.due("as FULL", full.status(2), CALLS - 1 - 150);
    }

    private static void undoneAgainAndAgain() {
        BumperCars x = new BumperCars();
        x.car(0, 7, 0);
        for (int i = 0; i < 255; i++) {
            Check.due("tick", x.tick(1 + i % 60), 0);
            Check.due("undo", x.undo(), 0);
        }
        Check.due("the last", x.count(4), 0);
    }

    private static void typedAndCleared() {
        BumperCars x = new BumperCars();
        int made = 0;
        while (made + 152 < CALLS) {
            repeat(x, 150, y -> y.type(' '));
            Check.due("read", x.read(), -160);
            Check.due("clear", x.clear(), 150);
            made += 152;
        }
        Check.due("the last", x.read(), -10);
    }

    private static void notedAndForgotten() {
        BumperCars x = new BumperCars();
        x.car(0, 7, 0);
        for (int i = 0; i < 73; i++) {
            for (int n = 1; n <= 6; n++) {
                Check.due("note", x.note(0, i, 3, 2, -1, 3, 1), n);
            }
            Check.due("forget", x.forget(), 6);
        }
    }

    private static void imagesAgainAndAgain() {
        BumperCars x = new BumperCars();
        x.car(0, 7, 0);
        for (int i = 0; i < 127; i++) {
            x.image(i % 2);
            x.tick(1);
            Check.due("from", x.from(i % 2), 1);
            x.tick(2);
        }
        Check.due("the tick", x.count(1), 254);
    }

    private static void dearestCalls() {
        BumperCars x = Check.floor("floor;car 1 7 0;car 2 8 1;car 3 9 2;car 4 10 3;car 5 11 0;hat 4;");
        int best = x.steer(2, 5, 1, -1);
        repeat(x, 400, y -> y.steer(2, 5, 1, 4));
        Check.due("the same still", x.steer(2, 5, 1, -1), best);
    }

    /** What later calls answer is free, but they end and do not throw. */
    private static void callsBeyond() {
        BumperCars x = new BumperCars();
        x.car(3, 7, 0);
        x.car(3, 8, 2);
        repeat(x, 20 * CALLS, y -> y.tick(60));
        x.digest();
        x.bell(9, 1);
        Check.that("it still answers", x.at(24) == -10);
    }
}
