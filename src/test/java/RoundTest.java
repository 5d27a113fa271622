import java.math.BigInteger;

/** What goes round: the right of a WAY, its opposite, TICKS by 2 and by 3, X of ROUNDS; and the edges of THE FLOOR. */
public final class RoundTest {
    private static final int PLAIN = 0;
    private static final int CHASER = 1;
    private static final int AVOIDS = 2;
    private static final int SMALL = 4;
    private static final int TIRED = 5;

    public static void main(String[] args) {
        edgesOfTheFloor();
        rightOfAWayAtAWall();
        rightOfAWayInACorner();
        rightOfAWayAheadOfACar();
        rightOfAWayInOddTicks();
        rightOfTheWayTakenOffTheFloor();
        oppositeOfAWay();
        oppositeOfTheWayTaken();
        ticksOfAnOddNumber();
        ticksThatLeaveNoughtByThree();
        ticksOfNotes();
        lateTicks();
        seedsAtBothEnds();
        seedsThatGoRound();
        carsLeftOver();
        seedGoesOn();
        Check.end();
    }

    private static BumperCars alone(int kind, int cell, int way) {
        BumperCars x = new BumperCars();
        x.car(kind, cell, way);
        return x;
    }

    private static void stands(String what, BumperCars x, int k, int cell, int way) {
        Check.due(what + ": cell", x.of(k, 1), cell);
        Check.due(what + ": way", x.of(k, 2), way);
    }

    /** "6 times the row (0 .. 3) and the column (0 .. 5)": no way leads from one row to the next by a column. */
    private static void edgesOfTheFloor() {
        int[] rows = {0, 1, 0, -1};
        int[] columns = {1, 0, -1, 0};
        for (int cell = 0; cell < 24; cell++) {
            for (int way = 0; way < 4; way++) {
                int row = cell / 6 + rows[way];
                int column = cell % 6 + columns[way];
                boolean off = row < 0 || row > 3 || column < 0 || column > 5;
                BumperCars x = alone(TIRED, cell, way);
                String what = "from " + cell + " by " + way;
                Check.due(what + ": ahead", x.of(0, 6), off ? 1 : 0);
                x.tick(1);
                stands(what, x, 0, off ? cell : 6 * row + column, off ? (way + 1) % 4 : way);
            }
        }
    }

    /** "the right of a WAY: 1 more by 4 left over" */
    private static void rightOfAWayAtAWall() {
        int[][] cases = {{11, 0, 1, 17}, {20, 1, 2, 19}, {12, 2, 3, 6}, {2, 3, 0, 3}};
        for (int[] c : cases) {
            BumperCars x = alone(PLAIN, c[0], c[1]);
            Check.due("right of " + c[1], x.way(0), c[2]);
            Check.due("ahead", x.of(0, 6), 1);
            x.tick(1);
            stands("right of " + c[1], x, 0, c[3], c[2]);
        }
    }

    private static void rightOfAWayInACorner() {
        int[][] cases = {{23, 0, 2}, {18, 1, 3}, {0, 2, 0}, {5, 3, 1}};
        for (int[] c : cases) {
            BumperCars x = alone(PLAIN, c[0], c[1]);
            x.tick(1);
            stands("corner " + c[0] + " by " + c[1], x, 0, c[0], c[2]);
        }
    }

    private static void rightOfAWayAheadOfACar() {
        int[][] cases = {{0, 9, 1, 14}, {1, 14, 2, 7}, {2, 7, 3, 2}, {3, 2, 0, 9}};
        for (int[] c : cases) {
            BumperCars x = alone(AVOIDS, 8, c[0]);
            x.car(PLAIN, c[1], 0);
            Check.due("ahead by " + c[0], x.of(0, 6), 2);
            Check.due("avoids by " + c[0], x.way(0), c[2]);
            x.tick(1);
            stands("avoids by " + c[0], x, 0, c[3], c[2]);
        }
    }

    private static void rightOfAWayInOddTicks() {
        int[][] cases = {{0, 1, 14}, {1, 2, 7}, {2, 3, 2}, {3, 0, 9}};
        for (int[] c : cases) {
            BumperCars x = alone(SMALL, 0, 0);
            x.tick(1);
            x.push(0, 8, c[0]);
            x.tick(1);
            stands("small by " + c[0], x, 0, c[2], c[1]);
        }
    }

    /** "if that leads off THE FLOOR, the right of it is its WAY": of the WAY taken, not of that ahead of it. */
    private static void rightOfTheWayTakenOffTheFloor() {
        int[][] cases = {{17, 3, 1}, {21, 0, 2}, {6, 1, 3}, {4, 2, 0}};
        for (int[] c : cases) {
            BumperCars x = alone(SMALL, 0, 0);
            x.tick(1);
            x.push(0, c[0], c[1]);
            Check.due("nothing ahead of it", x.of(0, 6), 0);
            x.tick(1);
            stands("small in " + c[0] + " by " + c[1], x, 0, c[0], c[2]);
        }
    }

    /** "it stays, the opposite is its WAY" */
    private static void oppositeOfAWay() {
        int[][] cases = {{0, 9, 2}, {1, 14, 3}, {2, 7, 0}, {3, 2, 1}};
        for (int[] c : cases) {
            BumperCars x = alone(PLAIN, 8, c[0]);
            x.car(PLAIN, c[1], c[0]);
            x.tick(1);
            stands("strikes by " + c[0], x, 0, 8, c[2]);
            Check.due("given", x.of(0, 4), 1);
            Check.due("struck", x.of(1, 3), 1);
        }
    }

    /** A chaser takes the way towards the hat, whatever its own was: it turns from the way that it took. */
    private static void oppositeOfTheWayTaken() {
        int[][] cases = {{0, 9, 2}, {1, 14, 3}, {2, 7, 0}, {3, 2, 1}};
        for (int[] c : cases) {
            for (int way = 0; way < 4; way++) {
                BumperCars x = alone(CHASER, 8, way);
                x.car(PLAIN, c[1], c[0]);
                x.hat(1);
                Check.due("takes", x.way(0), c[0]);
                Check.due("strikes", x.tick(1), 1);
                stands("way " + way + ", strikes by " + c[0], x, 0, 8, c[2]);
            }
        }
    }

    /** "the right of w in TICKS of an odd number" */
    private static void ticksOfAnOddNumber() {
        BumperCars x = alone(SMALL, 8, 0);
        for (int t = 0; t < 12; t++) {
            x.push(0, 8, 0);
            Check.due("small in tick " + t, x.way(0), t % 2);
            x.push(0, 11, 0);
            Check.due("small at a wall in tick " + t, x.way(0), 1);
            x.tick(1);
        }
    }

    /** "w in TICKS that leave 0 by 3, else as AVOIDS" */
    private static void ticksThatLeaveNoughtByThree() {
        BumperCars x = alone(TIRED, 8, 0);
        x.car(PLAIN, 23, 0);
        int[] due = {0, 1, 1, 0, 1, 1, 0, 1, 1, 0, 1, 1};
        for (int t = 0; t < 12; t++) {
            x.push(0, 8, 0);
            Check.due("tired with nothing ahead in tick " + t, x.way(0), 0);
            x.push(1, 9, 0);
            Check.due("tired ahead of a car in tick " + t, x.way(0), due[t]);
            x.push(1, 23, 0);
            x.push(0, 11, 0);
            Check.due("tired at a wall in tick " + t, x.way(0), due[t]);
            x.tick(1);
        }
    }

    /** The same in notes: t 0 .. 99. The bits: 16 small, 32 tired. */
    private static void ticksOfNotes() {
        for (int t : new int[] {0, 1, 2, 3, 4, 5, 6, 95, 96, 97, 98, 99}) {
            BumperCars x = alone(PLAIN, 8, 0);
            x.note(0, t, 3, 0, -1, -1, 0);
            Check.due("right in tick " + t + " with nothing ahead", x.is(0), t % 2 == 1 ? 16 : 0);
            x.forget();
            x.note(0, t, 3, 1, -1, -1, 3);
            Check.due("straight in tick " + t + " at a wall", x.is(0), t % 3 == 0 ? 32 : 0);
        }
    }

    private static void lateTicks() {
        BumperCars x = alone(TIRED, 8, 0);
        x.car(SMALL, 23, 0);
        for (int i = 0; i < 100; i++) {
            x.tick(60);
        }
        for (int t = 6000; t < 6006; t++) {
            Check.due("the tick", x.count(1), t);
            x.push(0, 11, 0);
            x.push(1, 8, 3);
            Check.due("tired in tick " + t, x.way(0), t % 3 == 0 ? 0 : 1);
            Check.due("small in tick " + t, x.way(1), t % 2 == 1 ? 0 : 3);
            x.tick(1);
        }
    }

    private static int[] told(int seed, int ticks, int cars) {
        BigInteger x = BigInteger.valueOf(seed);
        for (int i = 0; i < ticks; i++) {
            x = x.multiply(new BigInteger("1103515245")).add(new BigInteger("12345")).mod(new BigInteger("2147483648"));
        }
        int car = x.divide(new BigInteger("65536")).mod(BigInteger.valueOf(cars)).intValue();
        int way = x.divide(new BigInteger("1048576")).mod(BigInteger.valueOf(4)).intValue();
        return new int[] {car, way};
    }

    /** Plain ones in 8 and 9, their ways away from one another: only car 0 put to way 0 strikes. */
    private static BumperCars twoAway() {
        return Check.floor("floor;car 0 8 3;car 0 9 1;");
    }

    /** "SEED (0 .. 999999)": by seed 0 X is 12345 (car 0, way 0); by 999999 X is 1751684876 (car 0, way 2). */
    private static void seedsAtBothEnds() {
        Check.due("rounds(0, 0)", twoAway().rounds(0, 0), 0);
        Check.due("rounds(0, 1)", twoAway().rounds(0, 1), 1);
        Check.due("rounds(999999, 0)", twoAway().rounds(999999, 0), 0);
        Check.due("rounds(999999, 1)", twoAway().rounds(999999, 1), 0);
        Check.due("rounds(999999, 1): car 0 by way 2", Check.floor("floor;car 0 9 1;car 0 8 3;").rounds(999999, 1), 1);
    }

    /** "by 2147483648 what is left over": X goes round by seed 2 already. */
    private static void seedsThatGoRound() {
        int strikes = 0;
        for (int seed = 0; seed < 300; seed++) {
            int[] one = told(seed, 1, 2);
            int due = one[0] == 0 && one[1] == 0 ? 1 : 0;
            strikes += due;
            Check.due("rounds(" + seed + ", 1)", twoAway().rounds(seed, 1), due);
        }
        Check.that("some strike, some do not", strikes > 20 && strikes < 280);
    }

    /** "by how many CARS left over, is one": of 2 .. 5 CARS each one; it alone is put to the WAY told. */
    private static void carsLeftOver() {
        for (int cars = 2; cars <= 5; cars++) {
            for (int j = 0; j + 1 < cars; j++) {
                int strikes = 0;
                for (int seed = 0; seed < 200; seed++) {
                    int[] one = told(seed, 1, cars);
                    int due = one[0] == j && one[1] == 0 || one[0] == j + 1 && one[1] == 2 ? 1 : 0;
                    strikes += due;
                    Check.due("rounds(" + seed + ", 1) of " + cars, onlyBeside(j, cars).rounds(seed, 1), due);
                }
                Check.that("some of " + cars + " strike", strikes > 5 && strikes < 195);
            }
        }
    }

    /** Tired ones, all on their way off the floor; only j and the next one are beside one another. */
    private static BumperCars onlyBeside(int j, int cars) {
        BumperCars x = new BumperCars();
        for (int k = 0; k < cars; k++) {
            boolean beside = k == j || k == j + 1;
            x.car(TIRED, beside ? 2 + k - j : 18 + 2 * (k < j ? k : k - 2), beside ? 3 : 1);
        }
        return x;
    }

    /** "ahead of each TICK X becomes ...": from the X ahead of it, not from the seed. */
    private static void seedGoesOn() {
        for (int seed = 0; seed < 40; seed++) {
            for (int n = 0; n <= 60; n += 6) {
                BumperCars x = Check.floor("floor;car 0 7 0;car 2 8 1;car 5 9 2;car 4 10 3;");
                int due = 0;
                for (int i = 1; i <= n; i++) {
                    int[] one = told(seed, i, 4);
                    x.push(one[0], x.of(one[0], 1), one[1]);
                    due += x.tick(1);
                }
                BumperCars y = Check.floor("floor;car 0 7 0;car 2 8 1;car 5 9 2;car 4 10 3;");
                Check.due("rounds(" + seed + ", " + n + ")", y.rounds(seed, n), due);
            }
        }
    }
}
