/** Promises 19 to 26: steer, note, forget, is, look, two, bell, rounds. */
public final class WheelTest {
    private static final int NOT_SO_MANY = -5;

    public static void main(String[] args) {
        steer();
        steerRow();
        hunt();
        steerBehindTicks();
        steerAmidAll();
        steerRefused();
        notes();
        notesRefused();
        kindsThatFit();
        look();
        twoThatRest();
        twoApart();
        twoWithoutRest();
        twoRefused();
        bell();
        bellByAllWays();
        bellRefused();
        rounds();
        roundsRefused();
        Check.end();
    }

    private static void steered(BumperCars x, int k, int n, int what, int best, int[] row) {
        String call = "steer(" + k + ", " + n + ", " + what + ", ";
        Check.asked(x, call + "-1)", () -> x.steer(k, n, what, -1), best);
        for (int i = 0; i < n; i++) {
            int at = i;
            Check.asked(x, call + i + ")", () -> x.steer(k, n, what, at), row[i]);
        }
        Check.asked(x, call + n + ")", () -> x.steer(k, n, what, n), NOT_SO_MANY);
        Check.asked(x, call + "most)", () -> x.steer(k, n, what, Integer.MAX_VALUE), NOT_SO_MANY);
    }

    private static void steer() {
        steered(Check.floor("floor;car 0 7 0;"), 0, 5, 0, 0, new int[] {0, 0, 0, 0, 0});
        // Car 1 strikes what is in 8: to go there is to be struck, to go on to 13 is not.
        steered(Check.floor("floor;car 0 7 0;car 0 9 2;"), 0, 1, 0, 0, new int[] {1});
        // Car 0 is held in its corner: whatever it takes, 1 and 2 strike it.
        steered(Check.floor("floor;car 0 0 0;car 0 1 2;car 0 6 3;"), 0, 1, 0, 2, new int[] {0});
    }

    private static void steerRow() {
        // The chaser behind strikes whoever stays; the way off the floor is to stay, too.
        BumperCars x = Check.floor("floor;car 1 6 0;car 0 7 3;hat 1;");
        x.push(1, 8, 3);
        steered(x, 1, 2, 0, 0, new int[] {0, 0});
        BumperCars y = Check.floor("floor;car 0 1 2;car 1 0 0;hat 0;");
        Check.due("car 0 bumps and is struck", y.then(0, 1, 2), 1);
        steered(y, 0, 2, 0, 0, new int[] {0, 0});
    }

    private static void hunt() {
        steered(Check.floor("floor;car 0 7 0;"), 0, 5, 1, 0, new int[] {0, 0, 0, 0, 0});
        // The other one goes only behind it.
        BumperCars x = Check.floor("floor;car 0 18 0;car 5 19 0;");
        steered(x, 0, 1, 1, 1, new int[] {0});
        // Car 0 goes up to 8, 2 and turns to 3: struck in 8 at once, and from 3 in the third tick.
        steered(Check.floor("floor;car 0 14 3;car 0 9 0;"), 1, 2, 1, 1, new int[] {2, 0});
        steered(Check.floor("floor;car 0 14 3;car 0 9 0;"), 1, 3, 1, 2, new int[] {2, 3, 2});
    }

    /** What was given and struck ahead of now does not count. */
    private static void steerBehindTicks() {
        BumperCars x = Check.floor("floor;car 3 0 0;car 3 1 2;");
        Check.due("they strike one another", x.tick(10), 20);
        x.push(0, 14, 3);
        x.push(1, 23, 0);
        steered(x, 0, 1, 1, 0, new int[] {0});
        // From 15 the revengeful one in 22 would strike it in 16 and in 21, not in 14.
        steered(x, 0, 2, 0, 0, new int[] {0, 2});
        x.push(1, 13, 2);
        steered(x, 0, 1, 1, 1, new int[] {2});
    }

    /** All four beside it strike it in every tick, whatever it takes: as often as anyone can be struck. */
    private static void steerAmidAll() {
        BumperCars x = Check.floor("floor;car 0 8 0;car 3 9 2;car 3 14 3;car 3 7 0;car 3 2 1;foe 1 0;foe 2 0;foe 3 0;foe 4 0;");
        for (int n = 1; n <= 5; n++) {
            steered(Check.floor("floor;car 0 7 0;car 0 9 2;"), 0, 1, 0, 0, new int[] {1});
            steered(x, 0, n, 1, n, new int[] {0, 0, 0, 0, 0});
            // A row of another search must not be told again.
            steered(x, 1, n, 1, n, new int[] {2, 2, 2, 2, 2});
            steered(x, 0, n, 0, 4 * n, new int[] {0, 0, 0, 0, 0});
        }
    }

    private static void steerRefused() {
        BumperCars x = Check.floor("floor;car 0 18 0;car 5 19 0;");
        int[][] wrong = {{2, 1, 0, 0}, {-1, 1, 0, 0}, {0, 0, 0, 0}, {0, 6, 0, 0}, {0, -1, 0, -1}, {0, 1, 2, 0},
            {0, 1, -1, 0}, {0, 1, 0, -2}, {0, 1, 0, Integer.MIN_VALUE}, {0, 6, 0, 9}};
        for (int[] w : wrong) {
            Check.refused(x, "steer bad", () -> x.steer(w[0], w[1], w[2], w[3]), -10, 0);
        }
    }

    private static void notes() {
        BumperCars x = Check.floor("floor;car 0 18 0;car 5 19 0;");
        Check.due("note 1", x.note(0, 0, 0, 0, -1, -1, 0), 1);
        Check.due("note 2", x.note(1, 99, 3, 2, 3, 3, 3), 2);
        Check.due("count(3)", x.count(3), 2);
        Check.due("forget()", x.forget(), 2);
        Check.due("count(3)", x.count(3), 0);
        Check.due("forget() again", x.forget(), 0);
        for (int i = 1; i <= 6; i++) {
            Check.due("note", x.note(0, i, 0, 0, -1, -1, 0), i);
        }
        Check.refused(x, "a 7th note", () -> x.note(0, 0, 0, 0, -1, -1, 0), BumperCars.FULL, 2);
        Check.refused(x, "a 7th note, bad", () -> x.note(0, 100, 0, 0, -1, -1, 0), BumperCars.BAD, 0);
        Check.due("forget six", x.forget(), 6);
        Check.due("nothing to undo", x.count(4), 0);
    }

    private static void notesRefused() {
        BumperCars x = Check.floor("floor;car 0 18 0;car 5 19 0;");
        int[][] wrong = {{2, 0, 0, 0, 0, 0, 0}, {-1, 0, 0, 0, 0, 0, 0}, {0, 100, 0, 0, 0, 0, 0},
            {0, -1, 0, 0, 0, 0, 0}, {0, 0, 4, 0, 0, 0, 0}, {0, 0, -1, 0, 0, 0, 0}, {0, 0, 0, 3, 0, 0, 0},
            {0, 0, 0, -1, 0, 0, 0}, {0, 0, 0, 0, 4, 0, 0}, {0, 0, 0, 0, -2, 0, 0}, {0, 0, 0, 0, 0, 4, 0},
            {0, 0, 0, 0, 0, -2, 0}, {0, 0, 0, 0, 0, 0, 4}, {0, 0, 0, 0, 0, 0, -1}};
        for (int[] w : wrong) {
            Check.refused(x, "note bad", () -> x.note(w[0], w[1], w[2], w[3], w[4], w[5], w[6]), BumperCars.BAD, 0);
        }
    }

    private static void fits(int[] note, int bits) {
        BumperCars x = Check.floor("floor;car 0 18 0;car 5 19 0;");
        x.note(1, note[0], note[1], note[2], note[3], note[4], note[5]);
        Check.asked(x, "is(1)", () -> x.is(1), bits);
        Check.asked(x, "is(0) without notes", () -> x.is(0), 63);
    }

    /** The bits: 1 plain, 2 chaser, 4 avoids, 8 revenge, 16 small, 32 tired. */
    private static void kindsThatFit() {
        fits(new int[] {0, 0, 0, -1, -1, 0}, 63);
        fits(new int[] {0, 0, 0, -1, -1, 1}, 0);
        fits(new int[] {2, 0, 1, -1, -1, 1}, 63);
        fits(new int[] {3, 0, 1, -1, -1, 0}, 32);
        fits(new int[] {1, 3, 0, -1, -1, 0}, 16);
        fits(new int[] {1, 3, 0, -1, -1, 3}, 47);
        fits(new int[] {2, 0, 2, -1, -1, 1}, 36);
        fits(new int[] {3, 0, 2, -1, -1, 1}, 20);
        fits(new int[] {4, 0, 2, -1, -1, 0}, 27);
        fits(new int[] {2, 0, 0, 2, -1, 2}, 10);
        fits(new int[] {2, 0, 0, 2, 3, 2}, 2);
        fits(new int[] {2, 0, 0, 2, 3, 3}, 8);
        fits(new int[] {2, 0, 0, -1, 3, 3}, 8);
        fits(new int[] {99, 1, 2, -1, -1, 2}, 20);
        BumperCars x = Check.floor("floor;car 0 18 0;car 5 19 0;");
        x.note(0, 4, 0, 2, -1, -1, 0);
        x.note(0, 2, 0, 0, 2, -1, 0);
        x.note(1, 2, 0, 0, -1, 3, 3);
        Check.asked(x, "is(0) by two", () -> x.is(0), 17);
        Check.asked(x, "is(1) by one", () -> x.is(1), 8);
        Check.refused(x, "is(2)", () -> x.is(2), BumperCars.BAD, 0);
        Check.refused(x, "is(-1)", () -> x.is(-1), BumperCars.BAD, 0);
    }

    private static void look() {
        // Neither hat nor foe: t 1, a 2 parts plain, chaser, revenge (3) from avoids, small, tired (3).
        BumperCars x = Check.floor("floor;car 0 8 0;car 5 19 0;");
        Check.asked(x, "look(0)", () -> x.look(0), 12);
        x.note(0, 1, 3, 0, -1, -1, 0);
        Check.asked(x, "look(0): small alone", () -> x.look(0), 0);
        x.note(0, 1, 3, 0, -1, -1, 3);
        Check.asked(x, "look(0): no kind", () -> x.look(0), BumperCars.NONE);
        Check.asked(x, "look(1): its own notes", () -> x.look(1), 12);
        // Plain or tired: they part by a wall in tick 0.
        BumperCars y = Check.floor("floor;car 0 8 0;car 5 19 0;");
        y.note(0, 3, 0, 2, 1, 1, 0);
        y.note(0, 2, 0, 1, 2, 2, 1);
        y.note(0, 1, 0, 0, 2, 2, 0);
        Check.asked(y, "is: plain or tired", () -> y.is(0), 33);
        Check.asked(y, "look: plain or tired", () -> y.look(0), 1);
        // The way, the hat and the foe are those of now.
        BumperCars z = Check.floor("floor;car 0 8 0;car 5 19 0;car 0 3 0;hat 1;foe 0 2;");
        Check.asked(z, "look by hat and foe", () -> z.look(0), lookByHand(0, 1, 0));
        Check.refused(z, "look(3)", () -> z.look(3), BumperCars.BAD, 0);
        Check.refused(z, "look(-1)", () -> z.look(-1), BumperCars.BAD, 0);
    }

    /** All kinds, with h and f told: chaser takes h, revenge f; the others by the words of the document. */
    private static int lookByHand(int w, int h, int f) {
        int best = -1;
        int fewest = 7;
        for (int t = 0; t < 6; t++) {
            for (int a = 0; a < 3; a++) {
                int right = (w + 1) % 4;
                int plain = a == 1 ? right : w;
                int avoids = a == 0 ? w : right;
                int[] takes = {plain, h, avoids, f, t % 2 == 1 ? right : plain, t % 3 == 0 ? w : avoids};
                int most = 0;
                for (int one : takes) {
                    int alike = 0;
                    for (int other : takes) {
                        alike += one == other ? 1 : 0;
                    }
                    most = Math.max(most, alike);
                }
                if (most < fewest) {
                    fewest = most;
                    best = 10 * t + a;
                }
            }
        }
        return best;
    }

    private static void pairs(BumperCars x, int p, int q, int... due) {
        String call = "two(" + p + ", " + q + ", ";
        Check.asked(x, call + "-1)", () -> x.two(p, q, -1), due.length);
        for (int i = 0; i < due.length; i++) {
            int at = i;
            Check.asked(x, call + i + ")", () -> x.two(p, q, at), due[i]);
        }
        Check.asked(x, call + due.length + ")", () -> x.two(p, q, due.length), NOT_SO_MANY);
        Check.asked(x, call + "most)", () -> x.two(p, q, Integer.MAX_VALUE), NOT_SO_MANY);
    }

    private static void twoThatRest() {
        pairs(Check.floor("floor;car 0 0 0;car 0 23 0;"), 0, 1,
            0, 1, 2, 3, 4, 5, 6, 7, 8, 9, 10, 11, 12, 13, 14, 15);
        // Side by side in a row: the second strikes back, and so the first has nothing by its strike.
        pairs(Check.floor("floor;car 0 7 0;car 0 8 0;"), 0, 1, 2, 6, 10, 14);
        pairs(Check.floor("floor;car 0 7 0;car 0 8 0;"), 1, 0, 8, 9, 10, 11);
        // One above the other.
        pairs(Check.floor("floor;car 0 7 0;car 0 13 0;"), 0, 1, 3, 7, 11, 15);
    }

    private static void twoApart() {
        // Two apart from one another by one cell: 0 may go between and be struck, so it does not.
        pairs(Check.floor("floor;car 0 7 0;car 0 9 0;"), 0, 1, 4, 5, 6, 7, 8, 9, 10, 11, 12, 13, 14, 15);
    }

    private static void twoWithoutRest() {
        // In 9 and 14 others strike car 0; in 16 and 21 car 1 does, if it takes the same of the two.
        pairs(Check.floor("floor;car 2 15 0;car 2 22 1;car 4 3 1;car 2 8 0;"), 0, 1);
    }

    private static void twoRefused() {
        BumperCars x = Check.floor("floor;car 0 7 0;car 0 9 0;");
        int[][] wrong = {{0, 0, 0}, {1, 1, -1}, {0, 2, 0}, {2, 0, 0}, {-1, 0, 0}, {0, -1, 0}, {0, 1, -2}};
        for (int[] w : wrong) {
            Check.refused(x, "two bad", () -> x.two(w[0], w[1], w[2]), -10, 0);
        }
    }

    private static void belled(BumperCars x, int n, int c, long up, long down) {
        Check.due("bell(" + n + ", " + c + ")", x.bell(n, c), 1);
        Check.due("bell(" + n + ", " + c + "): above", x.part(0), up);
        Check.due("bell(" + n + ", " + c + "): below", x.part(1), down);
    }

    private static void bell() {
        // Two revengeful ones strike one another in every tick, twice.
        String text = "floor;car 3 7 0;car 3 8 2;";
        Check.due("two bumps a tick", Check.floor(text).bumps(9), 18);
        BumperCars x = Check.floor(text);
        belled(x, 0, 5, 0, 1);
        belled(x, 1, 0, 2, 1);
        belled(x, 9, 0, 18, 1);
        belled(x, 9, 10, 0, 1);
        belled(x, 1, 5, 1, 1);
        belled(x, 2, 5, 3, 2);
        belled(x, 3, 5, 7, 4);
        belled(x, 1, 1, 9, 5);
        belled(x, 2, 1, 171, 50);
        // 2 times 0.1 + 0.01 + ... (nine of them)
        belled(x, 9, 9, 111111111L, 500000000L);
        Check.due("nothing to undo", x.count(4), 0);
        Check.due("no tick", x.count(1), 0);
        belled(new BumperCars(), 9, 3, 0, 1);
    }

    /** Whoever is first and whichever way they strike; and cars that do not strike in every tick. */
    private static void bellByAllWays() {
        String[] pairs = {"7 0;car 3 8 0;", "8 0;car 3 7 0;", "7 0;car 3 13 0;", "13 0;car 3 7 0;"};
        for (String pair : pairs) {
            BumperCars x = Check.floor("floor;car 3 " + pair + "foe 0 1;foe 1 0;");
            belled(x, 1, 0, 2, 1);
            belled(x, 3, 5, 7, 4);
            belled(x, 9, 9, 111111111L, 500000000L);
        }
        // One bump, in the third tick: it must not have rung ahead of any of the three.
        BumperCars y = Check.floor("floor;car 0 20 3;car 0 5 2;");
        Check.due("bumps up to the second", y.bumps(2), 0);
        Check.due("bumps up to the third", y.bumps(3), 1);
        belled(y, 2, 3, 0, 1);
        belled(y, 3, 3, 343, 1000);
        belled(y, 3, 9, 1, 1000);
        belled(y, 3, 0, 1, 1);
    }

    private static void bellRefused() {
        BumperCars x = Check.floor("floor;car 3 7 0;car 3 8 2;");
        x.bell(2, 5);
        int[][] wrong = {{-1, 0}, {10, 0}, {0, -1}, {0, 11}};
        for (int[] w : wrong) {
            Check.refused(x, "bell bad", () -> x.bell(w[0], w[1]), BumperCars.BAD, 0);
        }
    }

    /** The way that the seed tells is put ahead of each tick by push, which has no other effect here. */
    private static int roundsByHand(String text, int seed, int n) {
        BumperCars x = Check.floor(text);
        long state = seed;
        int sum = 0;
        for (int i = 0; i < n; i++) {
            state = (state * 1103515245L + 12345L) % 2147483648L;
            int k = (int) (state / 65536 % x.count(0));
            x.push(k, x.of(k, 1), (int) (state / 1048576 % 4));
            sum += x.tick(1);
        }
        return sum;
    }

    private static void rounds() {
        String[] texts = {"floor;car 0 7 0;car 2 8 1;car 5 9 2;car 4 10 3;", "floor;car 0 0 0;",
            "floor;car 1 7 0;car 2 8 1;car 3 9 2;car 4 10 3;car 5 11 0;hat 4;", "floor;car 0 7 0;car 0 13 0;car 0 19 0;"};
        int[] seeds = {0, 1, 5, 77, 4242, 999999};
        int all = 0;
        for (String text : texts) {
            for (int seed : seeds) {
                for (int n = 0; n <= 60; n += 15) {
                    BumperCars x = Check.floor(text);
                    int ticks = n;
                    int due = roundsByHand(text, seed, n);
                    Check.asked(x, "rounds(" + seed + ", " + n + ")", () -> x.rounds(seed, ticks), due);
                    all += due;
                }
            }
        }
        Check.that("some bumps in rounds", all > 100);
    }

    private static void roundsRefused() {
        BumperCars x = new BumperCars();
        Check.refused(x, "rounds without cars", () -> x.rounds(0, 0), BumperCars.NO, 1);
        int[][] wrong = {{-1, 0}, {1000000, 0}, {0, -1}, {0, 61}};
        for (int[] w : wrong) {
            Check.refused(x, "rounds bad", () -> x.rounds(w[0], w[1]), BumperCars.BAD, 0);
        }
        x.car(0, 0, 0);
        Check.asked(x, "rounds(999999, 60)", () -> x.rounds(999999, 60), 0);
    }
}
