/** Which is taken of like ones, and what is just not alike. */
public final class LikeTest {
    private static final int NOT_SO_MANY = -5;

    public static void main(String[] args) {
        towardsAsFar();
        clustersOfOneSize();
        clustersByLeastCar();
        clustersBySidesAlone();
        clustersOneToTheNext();
        standInTheLeastCell();
        standWithoutACar();
        steerTheLeastWay();
        huntTheLeastWay();
        steerTheFirstRow();
        huntTheFirstRow();
        rowsOfEachLength();
        looksOfAllKinds();
        looksOfTwoKinds();
        looksOfOneKind();
        lookWithoutAKind();
        looksByHatAndFoe();
        pairsRising();
        pairsThatGetAsMuch();
        lowestTerms();
        Check.end();
    }

    /** "TOWARDS a CAR: by columns, if it is as far or further off by these, else by rows." */
    private static void towardsAsFar() {
        for (int from = 0; from < 24; from++) {
            for (int to = 0; to < 24; to++) {
                if (from == to) {
                    continue;
                }
                int rows = to / 6 - from / 6;
                int columns = to % 6 - from % 6;
                boolean byColumns = Math.abs(columns) >= Math.abs(rows);
                int due = byColumns ? (columns > 0 ? 0 : 2) : (rows > 0 ? 1 : 3);
                int way = due == 0 ? 1 : 0;
                String cars = "floor;car 1 " + from + " " + way + ";car 3 " + to + " 0;";
                Check.due("hat from " + from + " to " + to, Check.floor(cars + "hat 1;").way(0), due);
                cars = "floor;car 3 " + from + " " + way + ";car 3 " + to + " 0;";
                Check.due("foe from " + from + " to " + to, Check.floor(cars + "foe 0 1;").way(0), due);
            }
        }
    }

    private static BumperCars cells(int... cells) {
        BumperCars x = new BumperCars();
        for (int cell : cells) {
            x.car(0, cell, 0);
        }
        return x;
    }

    private static void cluster(int size, int bits, int... cells) {
        BumperCars x = cells(cells);
        Check.asked(x, "cluster(0)", () -> x.cluster(0), size);
        Check.asked(x, "cluster(1)", () -> x.cluster(1), bits);
    }

    private static void clustersOfOneSize() {
        cluster(0, 0);
        cluster(1, 1, 12);
        cluster(1, 1, 12, 0);
        cluster(1, 1, 23, 21, 19, 2, 0);
    }

    /** "of like ones that with the least CAR" */
    private static void clustersByLeastCar() {
        cluster(2, 3, 0, 1, 22, 23);
        cluster(2, 3, 22, 23, 0, 1);
        cluster(2, 9, 0, 22, 23, 1);
        cluster(2, 9, 22, 0, 1, 23);
        cluster(2, 5, 0, 22, 1, 23);
        cluster(2, 6, 12, 0, 1, 22, 23);
        cluster(2, 18, 12, 0, 22, 23, 1);
        cluster(2, 10, 12, 22, 0, 23, 1);
        cluster(2, 17, 22, 0, 1, 12, 23);
        cluster(2, 24, 12, 3, 21, 0, 1);
        cluster(3, 28, 0, 1, 21, 22, 23);
        cluster(3, 7, 21, 22, 23, 0, 1);
    }

    /** "joined by sides of their CELLS": neither by corners nor from one row's end to the next row. */
    private static void clustersBySidesAlone() {
        cluster(1, 1, 7, 0);
        cluster(1, 1, 7, 2);
        cluster(1, 1, 7, 12);
        cluster(1, 1, 7, 14);
        cluster(1, 1, 5, 6);
        cluster(1, 1, 12, 11);
        cluster(1, 1, 17, 18);
        cluster(1, 1, 7, 9);
        cluster(1, 1, 7, 19);
        cluster(2, 3, 7, 6);
        cluster(2, 3, 7, 8);
        cluster(2, 3, 7, 1);
        cluster(2, 3, 7, 13);
    }

    /** "one to the next": a chain whose links come in any order. */
    private static void clustersOneToTheNext() {
        cluster(5, 31, 0, 1, 2, 3, 4);
        cluster(5, 31, 4, 2, 0, 1, 3);
        cluster(5, 31, 0, 4, 1, 3, 2);
        cluster(5, 31, 0, 13, 6, 7, 14);
        cluster(4, 30, 23, 0, 7, 1, 8);
        cluster(4, 29, 0, 23, 13, 6, 7);
        cluster(3, 21, 0, 23, 2, 21, 1);
    }

    private static void stand(int cell, int far, int... cells) {
        BumperCars x = cells(cells);
        Check.asked(x, "stand(0)", () -> x.stand(0), cell);
        Check.asked(x, "stand(1)", () -> x.stand(1), far);
    }

    /** "of like ones the least" */
    private static void standInTheLeastCell() {
        stand(0, 0);
        stand(1, 1, 0);
        stand(4, 1, 5);
        stand(12, 1, 18);
        stand(17, 1, 23);
        stand(2, 1, 8);
        stand(8, 1, 14);
        stand(0, 2, 1, 6);
        stand(1, 5, 0, 5);
        stand(6, 3, 0, 18);
        stand(1, 8, 23, 0);
    }

    /** "the CELL without a CAR" */
    private static void standWithoutACar() {
        stand(8, 2, 7, 9);
        stand(2, 5, 7, 8, 9);
        stand(2, 5, 9, 7, 8);
        stand(7, 4, 1, 6, 8, 13);
        stand(0, 10, 1, 6, 8, 13, 7);
        stand(0, 3, 1, 7);
    }

    private static void row(BumperCars x, int what, int best, int... row) {
        String call = "steer(0, " + row.length + ", " + what + ", ";
        Check.asked(x, call + "-1)", () -> x.steer(0, row.length, what, -1), best);
        for (int i = 0; i < row.length; i++) {
            int at = i;
            Check.asked(x, call + i + ")", () -> x.steer(0, row.length, what, at), row[i]);
        }
        Check.asked(x, call + row.length + ")", () -> x.steer(0, row.length, what, row.length), NOT_SO_MANY);
        Check.asked(x, call + "most)", () -> x.steer(0, row.length, what, Integer.MAX_VALUE), NOT_SO_MANY);
    }

    /** For each way from 8 there is one that strikes whoever goes there. */
    private static void steerTheLeastWay() {
        int[][] strikers = {{10, 2}, {20, 3}, {6, 0}, {1, 0}};
        for (int covered = 0; covered < 16; covered++) {
            BumperCars x = cells(8);
            for (int way = 0; way < 4; way++) {
                if ((covered >> way & 1) == 1) {
                    x.car(0, strikers[way][0], strikers[way][1]);
                }
            }
            int free = Integer.numberOfTrailingZeros(~covered);
            row(x, 0, covered == 15 ? 1 : 0, covered == 15 ? 0 : free);
        }
    }

    /** For each way from 8 there is one to be struck. */
    private static void huntTheLeastWay() {
        int[] targets = {9, 14, 7, 2};
        for (int there = 0; there < 16; there++) {
            BumperCars x = cells(8);
            for (int way = 0; way < 4; way++) {
                if ((there >> way & 1) == 1) {
                    x.car(0, targets[way], 1);
                }
            }
            row(x, 1, there == 0 ? 0 : 1, there == 0 ? 0 : Integer.numberOfTrailingZeros(there));
        }
    }

    /** "the first such row (rising)": by the first way, then by the second. */
    private static void steerTheFirstRow() {
        row(cells(8), 0, 0, 0);
        row(cells(8), 0, 0, 0, 0);
        row(cells(8), 0, 0, 0, 0, 0);
        row(cells(8), 0, 0, 0, 0, 0, 0);
        row(cells(8), 0, 0, 0, 0, 0, 0, 0);
        // Car 1 comes from 11 by 10 and strikes in 9: in 9 at the first tick is free, to stay there is not.
        BumperCars x = cells(8);
        x.car(0, 11, 2);
        row(x, 0, 0, 0, 1);
        row(x, 0, 0, 0, 1, 0);
    }

    private static void huntTheFirstRow() {
        row(cells(8), 1, 0, 0, 0, 0, 0, 0);
        // Whoever goes to 9 is struck by car 1 and can strike back; later car 1 is gone.
        BumperCars x = cells(8);
        x.car(0, 10, 2);
        row(x, 1, 0, 0);
        row(x, 1, 1, 0, 0);
        row(x, 1, 1, 0, 0, 0);
    }

    /** Each length has a row of its own: the one of two ticks does not begin the one of three. */
    private static void rowsOfEachLength() {
        BumperCars x = cells(0);
        x.car(5, 6, 2);
        row(x, 1, 1, 1);
        row(x, 1, 2, 1, 1);
        // Tired ahead of a wall it stays in 6; then it avoids who stands in 0, or goes there if nobody does.
        row(x, 1, 2, 1, 0, 2);
    }

    /** No hat, no foe: 3 of the 6 kinds take one way by t 1, a 2, and by t 5, a 2: the least is told. */
    private static void looksOfAllKinds() {
        for (int way = 0; way < 4; way++) {
            BumperCars x = new BumperCars();
            x.car(0, 8, way);
            Check.asked(x, "look(0) by way " + way, () -> x.look(0), 12);
        }
    }

    private static void look(int kinds, int due, int[]... notes) {
        BumperCars x = cells(8, 23);
        for (int[] n : notes) {
            x.note(0, n[0], n[1], n[2], n[3], n[4], n[5]);
        }
        Check.asked(x, "is(0)", () -> x.is(0), kinds);
        Check.asked(x, "look(0) of " + kinds, () -> x.look(0), due);
        Check.asked(x, "look(1)", () -> x.look(1), 12);
    }

    /** The bits: 1 plain, 2 chaser, 4 avoids, 8 revenge, 16 small, 32 tired. */
    private static void looksOfTwoKinds() {
        int[] straightAheadOfCar = {2, 0, 2, 1, 1, 0};
        int[] rightAheadOfCar = {2, 0, 2, 2, 2, 1};
        int[] straightInTickOne = {1, 0, 0, 1, 1, 0};
        int[] rightAtWallInTickThree = {3, 0, 1, 2, 2, 1};
        int[] straightOfHat = {2, 0, 0, 1, -1, 0};
        look(17, 10, straightAheadOfCar);
        look(36, 1, rightAheadOfCar);
        look(37, 1, straightInTickOne);
        look(5, 2, straightInTickOne, rightAtWallInTickThree);
        look(21, 2, rightAtWallInTickThree);
        look(53, 22, straightOfHat);
    }

    /** One kind alone, or kinds that are always alike now: all are like, so 0. */
    private static void looksOfOneKind() {
        look(1, 0, new int[] {1, 0, 2, 1, 1, 0});
        look(16, 0, new int[] {1, 3, 0, -1, -1, 0});
        look(32, 0, new int[] {3, 0, 1, -1, -1, 0});
        look(2, 0, new int[] {2, 0, 0, 2, 3, 2});
        look(8, 0, new int[] {2, 0, 0, 2, 3, 3});
        look(10, 0, new int[] {2, 0, 0, 2, -1, 2});
    }

    /** "none: no KIND" */
    private static void lookWithoutAKind() {
        look(0, BumperCars.NONE, new int[] {0, 0, 0, -1, -1, 1});
        look(0, BumperCars.NONE, new int[] {1, 0, 2, 1, 1, 0}, new int[] {1, 3, 0, -1, -1, 0});
    }

    /** "w, h, f as they are now" */
    private static void looksByHatAndFoe() {
        BumperCars x = Check.floor("floor;car 0 8 0;car 0 9 0;");
        x.note(0, 1, 0, 2, -1, 0, 0);
        x.note(0, 1, 0, 2, 1, -1, 0);
        Check.due("plain alone", x.is(0), 1);
        x.forget();
        x.note(0, 1, 0, 2, -1, -1, 0);
        Check.due("plain, chaser or revenge", x.is(0), 11);
        Check.asked(x, "nothing parts them", () -> x.look(0), 0);
        x.hat(1);
        Check.asked(x, "the hat ahead parts them at a wall", () -> x.look(0), 1);
        x.push(0, 8, 3);
        Check.asked(x, "the hat beside parts them at once", () -> x.look(0), 0);
        x.push(0, 8, 0);
        x.hat(0);
        Check.asked(x, "one's own hat is none", () -> x.look(0), 0);
        BumperCars y = Check.floor("floor;car 0 8 2;car 0 9 0;car 0 7 0;foe 0 2;");
        y.note(0, 2, 0, 0, 2, -1, 2);
        Check.due("chaser or revenge", y.is(0), 10);
        Check.asked(y, "the foe ahead parts them at a wall", () -> y.look(0), 1);
        y.hat(2);
        Check.asked(y, "the foe with the hat does not", () -> y.look(0), 0);
        y.hat(1);
        Check.asked(y, "another with the hat parts them at once", () -> y.look(0), 0);
    }

    private static void pairs(BumperCars x, int... due) {
        Check.asked(x, "two(0, 1, -1)", () -> x.two(0, 1, -1), due.length);
        for (int i = 0; i < due.length; i++) {
            int at = i;
            Check.asked(x, "two(0, 1, " + i + ")", () -> x.two(0, 1, at), due[i]);
        }
        Check.asked(x, "two(0, 1, " + due.length + ")", () -> x.two(0, 1, due.length), NOT_SO_MANY);
        Check.asked(x, "two(0, 1, most)", () -> x.two(0, 1, Integer.MAX_VALUE), NOT_SO_MANY);
    }

    /** "pairs 4 i and j ...: how many; the k-th (rising)": all of them, some, none. */
    private static void pairsRising() {
        pairs(cells(0, 23), 0, 1, 2, 3, 4, 5, 6, 7, 8, 9, 10, 11, 12, 13, 14, 15);
        pairs(cells(7, 8), 2, 6, 10, 14);
        pairs(cells(8, 7), 0, 4, 8, 12);
        pairs(cells(7, 13), 3, 7, 11, 15);
        pairs(cells(13, 7), 1, 5, 9, 13);
        pairs(Check.floor("floor;car 2 15 0;car 2 22 1;car 4 3 1;car 2 8 0;"));
    }

    /** "neither would get more by another WAY": to get as much is to rest. */
    private static void pairsThatGetAsMuch() {
        // Car 2 is between the two, and stays: both strike it and nobody strikes them.
        BumperCars x = cells(7, 9, 8);
        x.push(2, 8, 1);
        pairs(x, 2);
        // The first may strike by two ways.
        BumperCars y = cells(7, 23, 8, 13);
        y.push(2, 8, 0);
        y.push(3, 13, 1);
        pairs(y, 0, 1, 2, 3, 4, 5, 6, 7);
    }

    private static void fraction(BumperCars x, int n, int c, long above, long below) {
        Check.due("bell(" + n + ", " + c + ")", x.bell(n, c), 1);
        Check.due("bell(" + n + ", " + c + "): above", x.part(0), above);
        Check.due("bell(" + n + ", " + c + "): below", x.part(1), below);
    }

    /** "lowest terms, below above 0" */
    private static void lowestTerms() {
        // Two revengeful ones: two bumps in each tick.
        BumperCars x = Check.floor("floor;car 3 7 0;car 3 8 2;");
        fraction(x, 1, 1, 9, 5);
        fraction(x, 1, 2, 8, 5);
        fraction(x, 1, 5, 1, 1);
        fraction(x, 1, 9, 1, 5);
        fraction(x, 1, 10, 0, 1);
        fraction(x, 1, 0, 2, 1);
        fraction(x, 2, 9, 11, 50);
        fraction(x, 9, 0, 18, 1);
        fraction(x, 9, 5, 511, 256);
        fraction(x, 9, 10, 0, 1);
        fraction(x, 0, 0, 0, 1);
        fraction(x, 0, 10, 0, 1);
        fraction(new BumperCars(), 9, 1, 0, 1);
        // 2 times 0.9 + 0.81 + ... (nine of them): 18 times (1 less 0.9 to the 9th).
        fraction(x, 9, 1, 5513215599L, 500000000L);
    }
}
