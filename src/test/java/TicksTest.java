/** Promises 7 to 12: tick, hat, push, undo, of, at; the kinds and the tick itself. */
public final class TicksTest {
    public static void main(String[] args) {
        plain();
        chaser();
        avoids();
        revenge();
        small();
        tired();
        towards();
        strikes();
        byNumbers();
        manyTicks();
        hat();
        push();
        undo();
        undoKeepsEight();
        undoBringsAllBack();
        of();
        at();
        Check.end();
    }

    /** The cells and ways of car k, one tick after the other. */
    private static void goes(String name, BumperCars x, int k, int[][] path) {
        for (int i = 0; i < path.length; i++) {
            x.tick(1);
            Check.due(name + ": cell behind " + (i + 1), x.of(k, 1), path[i][0]);
            Check.due(name + ": way behind " + (i + 1), x.of(k, 2), path[i][1]);
        }
    }

    private static void plain() {
        goes("plain round", Check.floor("floor;car 0 4 0;"), 0,
            new int[][] {{5, 0}, {11, 1}, {17, 1}, {23, 1}, {22, 2}, {21, 2}, {20, 2}, {19, 2}, {18, 2}, {12, 3}});
        goes("plain in a corner", Check.floor("floor;car 0 23 0;"), 0, new int[][] {{23, 2}, {22, 2}});
        goes("plain strikes", Check.floor("floor;car 0 7 0;car 0 8 0;"), 0, new int[][] {{7, 2}, {6, 2}, {0, 3}});
    }

    private static void chaser() {
        goes("chaser without a hat", Check.floor("floor;car 1 5 0;car 0 18 2;"), 0, new int[][] {{11, 1}});
        goes("chaser with the hat itself", Check.floor("floor;car 1 5 0;car 0 18 2;hat 0;"), 0, new int[][] {{11, 1}});
        goes("chaser", Check.floor("floor;car 1 5 0;car 2 18 2;hat 1;"), 0, new int[][] {{4, 2}});
        BumperCars x = Check.floor("floor;car 1 0 3;car 0 8 0;hat 1;");
        Check.due("chaser: towards", x.way(0), 0);
        Check.due("chaser: no foe counts", Check.floor("floor;car 1 7 3;car 0 8 0;foe 0 1;").way(0), 3);
    }

    private static void avoids() {
        BumperCars x = Check.floor("floor;car 2 7 0;car 0 8 1;");
        Check.due("avoids: ahead", x.of(0, 6), 2);
        Check.due("avoids", x.way(0), 1);
        Check.due("avoids: free", Check.floor("floor;car 2 7 0;").way(0), 0);
        Check.due("avoids: a wall", Check.floor("floor;car 2 6 2;").way(0), 3);
        Check.due("avoids: way 3", Check.floor("floor;car 2 7 3;car 0 1 0;").way(0), 0);
        Check.due("avoids: no hat counts", Check.floor("floor;car 2 7 0;car 0 19 0;hat 1;foe 0 1;").way(0), 0);
    }

    private static void revenge() {
        Check.due("revenge", Check.floor("floor;car 3 7 0;car 0 19 0;foe 0 1;").way(0), 1);
        Check.due("revenge: foe ahead of hat",
            Check.floor("floor;car 3 7 0;car 0 19 0;car 0 6 0;foe 0 1;hat 2;").way(0), 1);
        Check.due("revenge: hat", Check.floor("floor;car 3 7 0;car 0 19 0;car 0 6 0;hat 2;").way(0), 2);
        Check.due("revenge: plain", Check.floor("floor;car 3 5 0;car 0 19 0;").way(0), 1);
        Check.due("revenge: plain ahead", Check.floor("floor;car 3 7 0;car 0 8 0;").way(0), 0);
    }

    private static void small() {
        goes("small", Check.floor("floor;car 4 7 0;"), 0,
            new int[][] {{8, 0}, {14, 1}, {20, 1}, {19, 2}, {18, 2}, {12, 3}});
        goes("small: plain in even ticks", Check.floor("floor;car 4 5 0;"), 0, new int[][] {{11, 1}, {10, 2}});
        BumperCars x = Check.floor("floor;car 4 22 0;");
        goes("small off the floor in an odd tick", x, 0, new int[][] {{23, 0}, {23, 2}});
    }

    private static void tired() {
        goes("tired: wall in tick 0", Check.floor("floor;car 5 5 0;"), 0, new int[][] {{5, 1}, {11, 1}});
        BumperCars x = Check.floor("floor;car 5 3 0;");
        goes("tired", x, 0, new int[][] {{4, 0}, {5, 0}, {11, 1}, {17, 1}, {23, 1}, {22, 2}});
        BumperCars y = Check.floor("floor;car 5 7 0;car 5 8 3;");
        Check.due("tired strikes in tick 0", y.way(0), 0);
        y.tick(1);
        y.push(0, 7, 0);
        y.push(1, 8, 3);
        Check.due("tired avoids in tick 1", y.way(0), 1);
        y.tick(1);
        y.push(0, 7, 0);
        y.push(1, 8, 3);
        Check.due("tired avoids in tick 2", y.way(0), 1);
        y.tick(1);
        y.push(0, 7, 0);
        y.push(1, 8, 3);
        Check.due("tired strikes in tick 3", y.way(0), 0);
    }

    private static void towards() {
        int[][] ways = {{0, 2}, {2, 2}, {5, 0}, {8, 3}, {14, 0}, {13, 2}, {15, 0}, {21, 0}, {20, 1}, {12, 2},
            {19, 1}, {1, 3}, {3, 3}, {6, 2}, {11, 0}, {7, 2}, {10, 0}, {4, 0}};
        for (int[] w : ways) {
            if (w[0] == 8) {
                continue;
            }
            BumperCars x = Check.floor("floor;car 1 8 0;car 0 " + w[0] + " 0;hat 1;");
            int rows = w[0] / 6 - 1;
            int columns = w[0] % 6 - 2;
            int due = Math.abs(columns) >= Math.abs(rows) ? (columns > 0 ? 0 : 2) : (rows > 0 ? 1 : 3);
            Check.due("towards " + w[0], x.way(0), due);
        }
        Check.due("towards: as far by columns", Check.floor("floor;car 1 0 0;car 0 7 0;hat 1;").way(0), 0);
        Check.due("towards: as far by columns, back", Check.floor("floor;car 1 7 0;car 0 0 0;hat 1;").way(0), 2);
        Check.due("towards: further by rows", Check.floor("floor;car 1 0 0;car 0 13 0;hat 1;").way(0), 1);
        Check.due("towards: further by rows, back", Check.floor("floor;car 1 13 0;car 0 0 0;hat 1;").way(0), 3);
    }

    private static void strikes() {
        BumperCars x = Check.floor("floor;car 0 7 0;car 5 8 1;");
        Check.due("strikes: bumps", x.tick(1), 1);
        int[][] due = {{0, 7, 2, 0, 1, -1}, {5, 14, 1, 1, 0, 0}};
        for (int k = 0; k < 2; k++) {
            for (int what = 0; what < 6; what++) {
                Check.due("strikes: of(" + k + ", " + what + ")", x.of(k, what), due[k][what]);
            }
        }
        Check.due("strikes: tick", x.count(1), 1);
        Check.due("strikes: given by all", x.count(2), 1);
        BumperCars y = Check.floor("floor;car 0 0 1;car 0 12 3;");
        Check.due("opposite ways", y.tick(1), 1);
        Check.due("0 is in 6", y.of(0, 1), 6);
        Check.due("1 struck 0 and turns", y.of(1, 2), 1);
        Check.due("0's foe", y.of(0, 5), 1);
        BumperCars z = Check.floor("floor;car 3 8 0;car 3 9 2;car 3 7 0;");
        Check.due("three strike", z.tick(1), 3);
        Check.due("the last one is the foe", z.of(0, 5), 2);
        Check.due("struck twice", z.of(0, 3), 2);
        Check.due("struck once", z.of(1, 3), 1);
    }

    private static void byNumbers() {
        BumperCars x = Check.floor("floor;car 0 8 0;car 0 7 0;");
        Check.due("the one in front is first", x.tick(1), 0);
        Check.due("it has gone", x.at(9), 0);
        Check.due("so has the next", x.at(8), 1);
        BumperCars y = Check.floor("floor;car 0 7 0;car 0 8 0;");
        Check.due("the one behind is first", y.tick(1), 1);
        Check.due("it stays", y.at(7), 0);
        Check.due("the other goes", y.at(9), 1);
    }

    private static void manyTicks() {
        String text = "floor;car 1 7 0;car 2 8 1;car 3 9 2;car 4 10 3;car 5 11 0;hat 4;";
        BumperCars one = Check.floor(text);
        BumperCars all = Check.floor(text);
        long start = all.digest();
        int sum = 0;
        for (int i = 0; i < 60; i++) {
            sum += one.tick(1);
        }
        Check.due("tick(60)", all.tick(60), sum);
        Check.due("tick(60): given", all.count(2), sum);
        Check.due("tick(60): tick", all.count(1), 60);
        Check.due("tick(60): one to undo", all.count(4), 1);
        Check.due("60 times tick(1): eight to undo", one.count(4), 8);
        for (int k = 0; k < 5; k++) {
            for (int what = 0; what < 7; what++) {
                Check.due("tick(60): of", all.of(k, what), one.of(k, what));
            }
        }
        Check.due("undone at once", all.undo(), 0);
        Check.due("undone at once: all", all.digest(), start);
        for (int n : new int[] {0, -1, 61, Integer.MAX_VALUE, Integer.MIN_VALUE}) {
            Check.refused(all, "tick(" + n + ")", () -> all.tick(n), BumperCars.BAD, 0);
        }
        Check.due("no cars", new BumperCars().tick(60), 0);
    }

    private static void hat() {
        BumperCars x = Check.floor("floor;car 1 7 0;car 2 8 1;");
        Check.due("hat(1)", x.hat(1), BumperCars.NONE);
        Check.due("hat(0)", x.hat(0), 1);
        Check.due("hat(0) again", x.hat(0), 0);
        Check.due("hat(-1)", x.hat(-1), 0);
        Check.due("hat(-1) again", x.hat(-1), BumperCars.NONE);
        Check.due("each may be undone", x.count(4), 5);
        for (int k : new int[] {2, -2, 5, Integer.MAX_VALUE, Integer.MIN_VALUE}) {
            Check.refused(x, "hat(" + k + ")", () -> x.hat(k), -10, 0);
        }
    }

    private static void push() {
        BumperCars x = Check.floor("floor;car 1 7 0;car 2 8 1;");
        Check.due("push", x.push(0, 23, 3), 7);
        Check.due("push: cell", x.of(0, 1), 23);
        Check.due("push: way", x.of(0, 2), 3);
        Check.due("push: left", x.at(7), BumperCars.NONE);
        Check.due("push to its own", x.push(0, 23, 1), 23);
        Check.due("push to its own: way", x.of(0, 2), 1);
        Check.due("push: to undo", x.count(4), 2);
        Check.due("push: tick", x.count(1), 0);
        Check.refused(x, "push to another", () -> x.push(0, 8, 0), BumperCars.NO, 1);
        Check.refused(x, "push to another, bad way", () -> x.push(0, 8, 4), BumperCars.BAD, 0);
        int[][] wrong = {{2, 0, 0}, {-1, 0, 0}, {0, 24, 0}, {0, -1, 0}, {0, 0, 4}, {0, 0, -1}};
        for (int[] w : wrong) {
            Check.refused(x, "push bad", () -> x.push(w[0], w[1], w[2]), BumperCars.BAD, 0);
        }
    }

    private static void undo() {
        BumperCars x = Check.floor("floor;car 0 7 0;car 0 8 1;");
        Check.refused(x, "undo of none", () -> x.undo(), BumperCars.NO, 1);
        x.tick(2);
        x.hat(1);
        x.push(0, 0, 1);
        x.tick(1);
        Check.due("undo the tick", x.undo(), 2);
        Check.due("the cell", x.of(0, 1), 0);
        Check.due("undo the push", x.undo(), 2);
        Check.that("the cell ahead of it", x.of(0, 1) != 0);
        Check.due("undo the hat", x.undo(), 2);
        Check.due("undo the ticks", x.undo(), 0);
        Check.due("as read", x.digest(), Check.floor("floor;car 0 7 0;car 0 8 1;").digest());
        Check.refused(x, "nothing more", () -> x.undo(), BumperCars.NO, 1);
        x.hat(1);
        x.undo();
        Check.due("the hat is back", x.hat(0), BumperCars.NONE);
    }

    private static void undoKeepsEight() {
        BumperCars x = Check.floor("floor;car 0 7 0;");
        for (int i = 1; i <= 10; i++) {
            x.tick(1);
            Check.due("may be undone", x.count(4), Math.min(i, 8));
        }
        for (int i = 9; i >= 2; i--) {
            Check.due("undo", x.undo(), i);
            Check.due("left to undo", x.count(4), i - 2);
        }
        Check.due("the ninth", x.undo(), BumperCars.NO);
        x.tick(60);
        Check.due("again", x.undo(), 2);
    }

    private static void undoBringsAllBack() {
        BumperCars x = Check.floor("floor;car 3 7 0;car 3 8 2;car 1 9 2;");
        x.tick(3);
        x.forget();
        long[] digests = new long[7];
        for (int i = 0; i < 7; i++) {
            digests[i] = x.digest();
            if (i % 3 == 0) {
                x.tick(i + 1);
            } else if (i % 3 == 1) {
                x.hat(i % 2);
            } else {
                x.push(2, 23 - i, i % 4);
            }
        }
        for (int i = 6; i >= 0; i--) {
            x.undo();
            Check.due("undo to " + i, x.digest(), digests[i]);
        }
        x.tick(1);
        x.note(0, 1, 1, 1, 1, 1, 1);
        x.undo();
        Check.due("notes are not undone", x.count(3), 1);
    }

    private static void of() {
        BumperCars x = Check.floor("floor;car 5 0 3;car 4 1 2;car 3 23 1;foe 2 0;");
        int[][] due = {{5, 0, 3, 0, 0, -1, 1}, {4, 1, 2, 0, 0, -1, 2}, {3, 23, 1, 0, 0, 0, 1}};
        for (int k = 0; k < 3; k++) {
            for (int what = 0; what < 7; what++) {
                int car = k;
                int asked = what;
                Check.asked(x, "of(" + k + ", " + what + ")", () -> x.of(car, asked), due[k][what]);
            }
        }
        int[][] aheads = {{0, 0, 0}, {0, 1, 0}, {0, 2, 1}, {0, 3, 1}, {5, 0, 1}, {5, 1, 0}, {18, 1, 1}, {18, 2, 1},
            {18, 3, 0}, {23, 0, 1}, {23, 2, 0}, {12, 2, 1}, {11, 0, 1}, {17, 1, 0}};
        for (int[] a : aheads) {
            BumperCars y = Check.floor("floor;car 0 " + a[0] + " " + a[1] + ";");
            Check.due("ahead in " + a[0] + " by " + a[1], y.of(0, 6), a[2]);
        }
        BumperCars edge = Check.floor("floor;car 0 5 0;car 0 6 2;");
        Check.due("no car beyond the edge", edge.of(0, 6), 1);
        Check.due("no car beyond the other edge", edge.of(1, 6), 1);
        int[][] wrong = {{3, 0}, {-1, 0}, {0, 7}, {0, -1}, {5, 0}};
        for (int[] w : wrong) {
            Check.refused(x, "of bad", () -> x.of(w[0], w[1]), -10, 0);
        }
    }

    private static void at() {
        BumperCars x = Check.floor("floor;car 5 0 3;car 4 23 2;");
        Check.asked(x, "at(0)", () -> x.at(0), 0);
        Check.asked(x, "at(23)", () -> x.at(23), 1);
        Check.asked(x, "at(12)", () -> x.at(12), BumperCars.NONE);
        Check.refused(x, "at(24)", () -> x.at(24), -10, 0);
        Check.refused(x, "at(-1)", () -> x.at(-1), -10, 0);
    }
}
