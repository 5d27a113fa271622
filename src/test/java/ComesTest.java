/** Promises 13 to 18: way, then, when, bumps, cluster, stand. */
public final class ComesTest {
    private static final String BUSY = "floor;car 1 7 0;car 2 8 1;car 3 9 2;car 4 10 3;car 5 11 0;hat 4;";

    public static void main(String[] args) {
        way();
        then();
        when();
        bumps();
        cluster();
        stand();
        Check.end();
    }

    private static void way() {
        BumperCars x = Check.floor("floor;car 0 5 0;car 1 7 0;car 2 13 0;car 4 14 1;hat 2;");
        int[] due = {1, 1, 1, 1};
        for (int k = 0; k < 4; k++) {
            int car = k;
            Check.asked(x, "way(" + k + ")", () -> x.way(car), due[k]);
        }
        x.tick(1);
        x.push(3, 23, 1);
        Check.asked(x, "way of a small one in tick 1", () -> x.way(3), 2);
        Check.refused(x, "way(4)", () -> x.way(4), BumperCars.BAD, 0);
        Check.refused(x, "way(-1)", () -> x.way(-1), BumperCars.BAD, 0);
    }

    private static BumperCars busy(int ticks) {
        BumperCars x = Check.floor(BUSY);
        if (ticks > 0) {
            x.tick(ticks);
        }
        return x;
    }

    private static void then() {
        for (int m = 0; m <= 55; m++) {
            BumperCars now = busy(5);
            BumperCars later = busy(5 + m);
            for (int k = 0; k < 5; k++) {
                for (int what = 0; what < 4; what++) {
                    Check.due("then(" + k + ", " + m + ", " + what + ")", now.then(k, m, what), later.of(k, what + 1));
                }
            }
        }
        BumperCars x = busy(0);
        BumperCars last = busy(60);
        Check.asked(x, "then(0, 0, 0)", () -> x.then(0, 0, 0), 7);
        Check.asked(x, "then(0, 60, 0)", () -> x.then(0, 60, 0), last.of(0, 1));
        Check.asked(x, "then(4, 60, 2)", () -> x.then(4, 60, 2), last.of(4, 3));
        int[][] wrong = {{5, 0, 0}, {-1, 0, 0}, {0, 61, 0}, {0, -1, 0}, {0, 0, 4}, {0, 0, -1}};
        for (int[] w : wrong) {
            Check.refused(x, "then bad", () -> x.then(w[0], w[1], w[2]), BumperCars.BAD, 0);
        }
    }

    private static void when() {
        Check.due("when: at once", Check.floor("floor;car 0 7 0;car 0 8 1;").when(1), 1);
        Check.due("when: never", Check.floor("floor;car 0 7 0;car 0 8 1;").when(0), BumperCars.NONE);
        Check.due("when: alone", Check.floor("floor;car 0 7 0;").when(0), BumperCars.NONE);
        for (int k = 0; k < 5; k++) {
            BumperCars x = busy(7);
            int due = BumperCars.NONE;
            for (int m = 60; m >= 1; m--) {
                if (x.then(k, m, 2) > x.of(k, 3)) {
                    due = m;
                }
            }
            int car = k;
            Check.asked(x, "when(" + k + ")", () -> x.when(car), due);
        }
        BumperCars x = Check.floor("floor;car 1 18 0;car 0 23 0;hat 1;");
        Check.refused(x, "when(2)", () -> x.when(2), BumperCars.BAD, 0);
        Check.refused(x, "when(-1)", () -> x.when(-1), BumperCars.BAD, 0);
        lastTickOfWhen();
    }

    /** First struck in the 60th tick, which counts still, or in the 61st, which does not. */
    private static void lastTickOfWhen() {
        firstStruck("floor;car 4 22 0;car 1 6 0;car 5 7 0;hat 1;", 1, 60, 60);
        firstStruck("floor;car 4 4 3;car 0 21 3;car 5 6 0;car 2 7 1;hat 2;", 0, 60, 60);
        firstStruck("floor;car 2 11 1;car 5 1 2;car 0 15 3;car 1 9 1;car 1 10 0;", 1, 61, BumperCars.NONE);
    }

    private static void firstStruck(String text, int k, int tick, int due) {
        BumperCars x = Check.floor(text);
        Check.asked(x, "when(" + k + ") of " + text, () -> x.when(k), due);
        for (int m = 1; m <= tick; m++) {
            x.tick(1);
            Check.due("struck in " + m, x.of(k, 3) > 0 ? 1 : 0, m == tick ? 1 : 0);
        }
    }

    private static void bumps() {
        BumperCars y = busy(0);
        for (int m = 0; m <= 60; m++) {
            BumperCars x = busy(0);
            int ticks = m;
            Check.asked(x, "bumps(" + m + ")", () -> x.bumps(ticks), y.count(2));
            y.tick(1);
        }
        BumperCars x = busy(9);
        Check.due("only the next ones", x.bumps(0), 0);
        Check.due("no cars", new BumperCars().bumps(60), 0);
        Check.refused(x, "bumps(61)", () -> x.bumps(61), BumperCars.BAD, 0);
        Check.refused(x, "bumps(-1)", () -> x.bumps(-1), BumperCars.BAD, 0);
    }

    private static void clusterOf(String text, int size, int bits) {
        BumperCars x = text.isEmpty() ? new BumperCars() : Check.floor(text);
        Check.asked(x, "cluster(0) of " + text, () -> x.cluster(0), size);
        Check.asked(x, "cluster(1) of " + text, () -> x.cluster(1), bits);
    }

    private static void cluster() {
        clusterOf("", 0, 0);
        clusterOf("floor;car 0 5 0;", 1, 1);
        clusterOf("floor;car 0 5 0;car 0 6 0;", 1, 1);
        clusterOf("floor;car 0 0 0;car 0 7 0;", 1, 1);
        clusterOf("floor;car 0 0 0;car 0 1 0;", 2, 3);
        clusterOf("floor;car 0 23 0;car 0 17 0;", 2, 3);
        clusterOf("floor;car 0 0 0;car 0 7 0;car 0 8 0;", 2, 6);
        clusterOf("floor;car 0 0 0;car 0 7 0;car 0 6 0;", 3, 7);
        clusterOf("floor;car 0 0 0;car 0 20 0;car 0 14 0;car 0 6 0;", 2, 9);
        clusterOf("floor;car 0 20 0;car 0 0 0;car 0 1 0;car 0 14 0;", 2, 9);
        clusterOf("floor;car 0 20 0;car 0 0 0;car 0 1 0;car 0 14 0;car 0 6 0;", 3, 22);
        clusterOf("floor;car 0 0 0;car 0 4 0;car 0 3 0;car 0 2 0;car 0 1 0;", 5, 31);
        clusterOf("floor;car 0 0 0;car 0 18 0;car 0 12 0;car 0 6 0;car 0 23 0;", 4, 15);
        BumperCars x = new BumperCars();
        Check.refused(x, "cluster(2)", () -> x.cluster(2), BumperCars.BAD, 0);
        Check.refused(x, "cluster(-1)", () -> x.cluster(-1), BumperCars.BAD, 0);
    }

    private static void standOf(String text, int cell, int far) {
        BumperCars x = text.isEmpty() ? new BumperCars() : Check.floor(text);
        Check.asked(x, "stand(0) of " + text, () -> x.stand(0), cell);
        Check.asked(x, "stand(1) of " + text, () -> x.stand(1), far);
    }

    private static void stand() {
        standOf("", 0, 0);
        standOf("floor;car 0 0 0;", 1, 1);
        standOf("floor;car 0 23 0;", 17, 1);
        standOf("floor;car 0 0 0;car 0 2 0;", 1, 2);
        standOf("floor;car 0 0 0;car 0 23 0;", 1, 8);
        standOf("floor;car 0 1 0;car 0 6 0;car 0 8 0;car 0 13 0;", 7, 4);
        standOf("floor;car 0 1 0;car 0 6 0;car 0 8 0;car 0 13 0;car 0 7 0;", 0, 10);
        BumperCars x = new BumperCars();
        Check.refused(x, "stand(2)", () -> x.stand(2), BumperCars.BAD, 0);
        Check.refused(x, "stand(-1)", () -> x.stand(-1), BumperCars.BAD, 0);
    }
}
