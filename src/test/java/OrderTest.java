import java.util.function.ToLongFunction;

/**
 * In which order calls are refused ("the first of: BAD ...; NO ...; FULL"), which counter each answer goes to,
 * and which answers are no refusals.
 */
public final class OrderTest {
    private static final int BAD = BumperCars.BAD;
    private static final int FAR = -10;
    private static final int NOT_SO_MANY = -5;

    public static void main(String[] args) {
        carBadAheadOfNo();
        carBadAheadOfFull();
        carNoAheadOfFull();
        typeBadAheadOfFull();
        pushBadAheadOfNo();
        pushToItsOwnCell();
        noteBadAheadOfFull();
        roundsBadAheadOfNo();
        fromBadAheadOfNo();
        steerBadAheadOfTooFew();
        twoBadAheadOfTooFew();
        hatOfNobody();
        anotherWhatOfStatus();
        otherAnswersCountAsBad();
        answersThatAreNoRefusal();
        faultIsNoRefusal();
        statusCountsEachApart();
        Check.end();
    }

    private static int taken(BumperCars x) {
        return x.of(0, 1);
    }

    private static int free(BumperCars x) {
        int cell = 0;
        while (x.at(cell) != BumperCars.NONE) {
            cell++;
        }
        return cell;
    }

    private static void carBadAheadOfNo() {
        for (Scene s : new Scene[] {Scene.ONE, Scene.RICH, Scene.FULL}) {
            s.bad("car of a wrong kind in a cell with a car", x -> x.car(6, taken(x), 0), BAD);
            s.bad("car of a wrong way in a cell with a car", x -> x.car(0, taken(x), 4), BAD);
            s.bad("car of a kind below in a cell with a car", x -> x.car(-1, taken(x), 0), BAD);
            s.bad("car of a way below in a cell with a car", x -> x.car(0, taken(x), -1), BAD);
        }
    }

    private static void carBadAheadOfFull() {
        Scene.FULL.bad("a 6th car of a wrong kind", x -> x.car(6, free(x), 0), BAD);
        Scene.FULL.bad("a 6th car of a wrong way", x -> x.car(0, free(x), 4), BAD);
        Scene.FULL.bad("a 6th car in a wrong cell", x -> x.car(0, 24, 0), BAD);
        Scene.FULL.full("a 6th car", x -> x.car(0, free(x), 0));
    }

    /** "NO: a CAR is there; FULL: 5." */
    private static void carNoAheadOfFull() {
        for (int k = 0; k < 5; k++) {
            int car = k;
            Scene.FULL.no("a 6th car where " + k + " is", x -> x.car(0, x.of(car, 1), 0));
        }
        Scene.RICH.no("a 4th car where one is", x -> x.car(0, taken(x), 0));
        Scene.ONE.no("a 2nd car where one is", x -> x.car(0, 23, 0));
    }

    private static void typeBadAheadOfFull() {
        Scene.FULL.bad("type(128)", x -> x.type(128), BAD);
        Scene.FULL.bad("type(-1)", x -> x.type(-1), BAD);
        Scene.FULL.full("type(127)", x -> x.type(127));
        Scene.FULL.full("type(0)", x -> x.type(0));
    }

    /** "BAD; NO: another CAR is there." */
    private static void pushBadAheadOfNo() {
        for (Scene s : new Scene[] {Scene.RICH, Scene.FULL}) {
            s.no("push to another", x -> x.push(1, taken(x), 0));
            s.bad("push to another by a wrong way", x -> x.push(1, taken(x), 4), BAD);
            s.bad("push of nobody to another", x -> x.push(s.cars, taken(x), 0), BAD);
            s.bad("push of -1 to another", x -> x.push(-1, taken(x), 0), BAD);
        }
    }

    /** "to a CELL without one (or its own)" */
    private static void pushToItsOwnCell() {
        for (int way = 0; way < 4; way++) {
            BumperCars x = Scene.RICH.made();
            int cell = x.of(1, 1);
            int undoable = x.count(4);
            Check.due("push to its own", x.push(1, cell, way), cell);
            Check.due("its cell", x.of(1, 1), cell);
            Check.due("its way", x.of(1, 2), way);
            Check.due("may be undone", x.count(4), undoable + 1);
        }
    }

    private static void noteBadAheadOfFull() {
        int[][] wrong = {{5, 0, 0, 0, 0, 0, 0}, {-1, 0, 0, 0, 0, 0, 0}, {0, 100, 0, 0, 0, 0, 0}, {0, 0, 4, 0, 0, 0, 0},
            {0, 0, 0, 3, 0, 0, 0}, {0, 0, 0, 0, 4, 0, 0}, {0, 0, 0, 0, 0, 4, 0}, {0, 0, 0, 0, 0, 0, 4}};
        for (int[] w : wrong) {
            Scene.FULL.bad("a 7th note", x -> x.note(w[0], w[1], w[2], w[3], w[4], w[5], w[6]), BAD);
        }
        Scene.FULL.full("a 7th note", x -> x.note(4, 99, 3, 2, 3, 3, 3));
        Scene.NEW.bad("a note of nobody", x -> x.note(0, 0, 0, 0, 0, 0, 0), BAD);
    }

    /** "BAD; NO." */
    private static void roundsBadAheadOfNo() {
        Scene.NEW.bad("rounds(-1, 0)", x -> x.rounds(-1, 0), BAD);
        Scene.NEW.bad("rounds(1000000, 0)", x -> x.rounds(1000000, 0), BAD);
        Scene.NEW.bad("rounds(0, -1)", x -> x.rounds(0, -1), BAD);
        Scene.NEW.bad("rounds(0, 61)", x -> x.rounds(0, 61), BAD);
        Scene.NEW.no("rounds(0, 60)", x -> x.rounds(0, 60));
        Scene.NEW.no("rounds(999999, 0)", x -> x.rounds(999999, 0));
    }

    private static void fromBadAheadOfNo() {
        Scene.NEW.bad("from(2)", x -> x.from(2), BAD);
        Scene.NEW.bad("from(-1)", x -> x.from(-1), BAD);
        Scene.RICH.no("from(1)", x -> x.from(1));
    }

    /** "-5: not so many. BAD: -10." */
    private static void steerBadAheadOfTooFew() {
        Scene.RICH.bad("steer of nobody", x -> x.steer(3, 1, 0, 1), FAR);
        Scene.RICH.bad("steer for 0", x -> x.steer(0, 0, 0, 0), FAR);
        Scene.RICH.bad("steer for 6", x -> x.steer(0, 6, 0, 6), FAR);
        Scene.RICH.bad("steer for another what", x -> x.steer(0, 1, 2, 1), FAR);
        for (int n = 1; n <= 5; n++) {
            int ticks = n;
            Scene.RICH.asked("steer beyond " + n, x -> x.steer(0, ticks, 0, ticks), NOT_SO_MANY);
            Scene.RICH.asked("hunt beyond " + n, x -> x.steer(0, ticks, 1, ticks), NOT_SO_MANY);
            Scene.RICH.asked("steer far beyond", x -> x.steer(2, ticks, 1, Integer.MAX_VALUE), NOT_SO_MANY);
            int last = Scene.RICH.made().steer(0, n, 0, n - 1);
            Check.that("a way up to " + n, last >= 0 && last < 4);
        }
    }

    /** "-5: not so many. BAD: -10: alike, too." */
    private static void twoBadAheadOfTooFew() {
        Scene.RICH.bad("two alike", x -> x.two(1, 1, 99), FAR);
        Scene.RICH.bad("two with nobody", x -> x.two(1, 3, 99), FAR);
        Scene.RICH.bad("two of nobody", x -> x.two(3, 1, 99), FAR);
        Scene.NEW.bad("two alike of nobody", x -> x.two(0, 0, 99), FAR);
        int many = Scene.RICH.made().two(0, 1, -1);
        Scene.RICH.asked("two beyond", x -> x.two(0, 1, many), NOT_SO_MANY);
        Check.that("two up to", many == 0 || Scene.RICH.made().two(0, 1, many - 1) >= 0);
        Scene.RICH.asked("two beyond all", x -> x.two(0, 1, 16), NOT_SO_MANY);
        Scene.RICH.asked("two far beyond", x -> x.two(0, 1, Integer.MAX_VALUE), NOT_SO_MANY);
    }

    /** "(NONE: nobody)": -1 is as told, even without cars; -2 is not. */
    private static void hatOfNobody() {
        Scene.NEW.bad("hat(0)", x -> x.hat(0), FAR);
        Scene.NEW.bad("hat(-2)", x -> x.hat(-2), FAR);
        BumperCars x = new BumperCars();
        Check.due("hat(-1)", x.hat(-1), BumperCars.NONE);
        Check.due("nothing refused", x.status(0), 0);
        Check.due("it may be undone", x.count(4), 1);
        BumperCars y = Scene.RICH.made();
        Check.due("hat(-1): who had it", y.hat(-1), 0);
        Check.due("hat(-1) again", y.hat(-1), BumperCars.NONE);
        Check.due("hat(2)", y.hat(2), BumperCars.NONE);
        Check.due("hat(2) again", y.hat(2), 2);
    }

    /** "-1: another what (counts as BAD)" */
    private static void anotherWhatOfStatus() {
        for (int what : new int[] {3, -1, Integer.MAX_VALUE, Integer.MIN_VALUE}) {
            Scene.RICH.bad("status(" + what + ")", x -> x.status(what), -1);
        }
        BumperCars x = new BumperCars();
        x.status(3);
        x.status(4);
        Check.due("it counts itself", x.status(0), 2);
        Check.due("not as NO", x.status(1), 0);
        Check.due("not as FULL", x.status(2), 0);
    }

    /** "(where others are told they count as these)" */
    private static void otherAnswersCountAsBad() {
        Scene.NEW.bad("hat(0)", x -> x.hat(0), FAR);
        Scene.NEW.bad("of(0, 0)", x -> x.of(0, 0), FAR);
        Scene.NEW.bad("at(24)", x -> x.at(24), FAR);
        Scene.NEW.bad("steer(0, 1, 0, 0)", x -> x.steer(0, 1, 0, 0), FAR);
        Scene.NEW.bad("two(0, 1, 0)", x -> x.two(0, 1, 0), FAR);
        Scene.NEW.bad("part(2)", x -> x.part(2), BAD);
        Scene.NEW.bad("count(6)", x -> x.count(6), BAD);
        Scene.NEW.bad("image(2)", x -> x.image(2), BAD);
    }

    private static void answersThatAreNoRefusal() {
        Scene.ONE.asked("at(0): NONE", x -> x.at(0), BumperCars.NONE);
        Scene.ONE.asked("of(0, 5): NONE", x -> x.of(0, 5), BumperCars.NONE);
        Scene.ONE.asked("when(0): NONE", x -> x.when(0), BumperCars.NONE);
        Scene.ONE.asked("steer(0, 1, 0, 1): -5", x -> x.steer(0, 1, 0, 1), NOT_SO_MANY);
        BumperCars x = Scene.ONE.made();
        x.note(0, 0, 0, 0, -1, -1, 1);
        Check.asked(x, "look(0): NONE", () -> x.look(0), BumperCars.NONE);
        Check.asked(x, "is(0): no KIND", () -> x.is(0), 0);
    }

    private static void faultIsNoRefusal() {
        Scene.NEW.asked("read of none", x -> x.read(), -10);
        BumperCars x = Scene.ONE.made();
        Check.type(x, "floor;floor;");
        Check.asked(x, "read with a FAULT", () -> x.read(), -16);
    }

    private static void count(BumperCars x, ToLongFunction<BumperCars> call, int bad, int no, int full) {
        call.applyAsLong(x);
        Check.due("status(0)", x.status(0), bad);
        Check.due("status(1)", x.status(1), no);
        Check.due("status(2)", x.status(2), full);
    }

    /** "how many calls were refused as BAD, NO, FULL": through floor, read, undo and images. */
    private static void statusCountsEachApart() {
        BumperCars x = new BumperCars();
        count(x, y -> y.undo(), 0, 1, 0);
        count(x, y -> y.tick(0), 1, 1, 0);
        count(x, y -> y.from(0), 1, 2, 0);
        for (int cell = 0; cell < 5; cell++) {
            x.car(0, cell, 1);
        }
        count(x, y -> y.car(0, 9, 1), 1, 2, 1);
        count(x, y -> y.image(0), 1, 2, 1);
        count(x, y -> y.car(0, 4, 1), 1, 3, 1);
        count(x, y -> y.push(0, 1, 1), 1, 4, 1);
        count(x, y -> y.from(0), 1, 4, 1);
        count(x, y -> y.floor(), 1, 4, 1);
        count(x, y -> y.at(24), 2, 4, 1);
        count(x, y -> Check.read(y, "floor;"), 2, 4, 1);
        count(x, y -> y.tick(1), 2, 4, 1);
        count(x, y -> y.undo(), 2, 4, 1);
        count(x, y -> y.clear(), 2, 4, 1);
    }
}
