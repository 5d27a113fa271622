/** Promises 1 to 6: a new object, floor, car, type, clear, read. */
public final class FloorTest {
    public static void main(String[] args) {
        newObject();
        floorIsAsAtFirst();
        floorLeavesTheRest();
        cars();
        carsRefused();
        carEndsUndo();
        type();
        clear();
        readWhole();
        readTokens();
        readFaults();
        readLeavesTheRest();
        readFaultLeavesAll();
        Check.end();
    }

    private static void newObject() {
        BumperCars x = new BumperCars();
        long h = 1301;
        for (int what = 0; what < 6; what++) {
            Check.due("new: count(" + what + ")", x.count(what), 0);
            h = 31 * h;
        }
        h = 31 * h - 1;
        h = 31 * h;
        h = 31 * h + 1;
        Check.due("new: digest", x.digest(), h);
        for (int what = 0; what < 3; what++) {
            Check.due("new: status(" + what + ")", x.status(what), 0);
        }
        Check.due("new: part(0)", x.part(0), 0);
        Check.due("new: part(1)", x.part(1), 1);
        for (int cell = 0; cell < 24; cell++) {
            Check.due("new: at(" + cell + ")", x.at(cell), BumperCars.NONE);
        }
        Check.refused(x, "new: from(0)", () -> x.from(0), BumperCars.NO, 1);
        Check.refused(x, "new: from(1)", () -> x.from(1), BumperCars.NO, 1);
        Check.refused(x, "new: undo()", () -> x.undo(), BumperCars.NO, 1);
        Check.due("new: hat(-1)", x.hat(-1), BumperCars.NONE);
    }

    private static BumperCars busy() {
        BumperCars x = new BumperCars();
        x.car(0, 0, 0);
        x.car(1, 1, 2);
        x.hat(0);
        x.tick(3);
        x.note(0, 0, 0, 0, 0, 0, 0);
        return x;
    }

    private static void floorIsAsAtFirst() {
        BumperCars x = busy();
        Check.that("busy: something to undo", x.count(4) == 2);
        Check.that("busy: bumps", x.count(2) > 0);
        Check.due("floor()", x.floor(), 2);
        Check.due("floor: as new", x.digest(), new BumperCars().digest());
        Check.due("floor: undo", x.undo(), BumperCars.NO);
        Check.due("floor() again", x.floor(), 0);
        Check.due("car comes as 0", x.car(2, 5, 1), 0);
        Check.due("its struck", x.of(0, 3), 0);
        Check.due("its given", x.of(0, 4), 0);
        Check.due("its foe", x.of(0, 5), BumperCars.NONE);
    }

    private static void floorLeavesTheRest() {
        BumperCars x = busy();
        Check.type(x, "hat");
        x.bell(3, 5);
        long up = x.part(0);
        long down = x.part(1);
        Check.that("a fraction", up > 0);
        x.image(1);
        long then = x.digest();
        x.car(6, 0, 0);
        x.floor();
        Check.due("floor: text stays", x.count(5), 3);
        Check.due("floor: above stays", x.part(0), up);
        Check.due("floor: below stays", x.part(1), down);
        Check.due("floor: status stays", x.status(0), 1);
        Check.due("floor: image stays", x.from(1), 1);
        Check.due("floor: all back", x.digest(), then);
    }

    private static void cars() {
        BumperCars x = new BumperCars();
        Check.due("car 0", x.car(5, 23, 3), 0);
        Check.due("car 1", x.car(0, 0, 0), 1);
        Check.due("car 2", x.car(1, 12, 1), 2);
        Check.due("car 3", x.car(2, 5, 2), 3);
        Check.due("car 4", x.car(4, 18, 3), 4);
        int[][] due = {{5, 23, 3}, {0, 0, 0}, {1, 12, 1}, {2, 5, 2}, {4, 18, 3}};
        for (int k = 0; k < 5; k++) {
            for (int what = 0; what < 3; what++) {
                Check.due("of(" + k + ", " + what + ")", x.of(k, what), due[k][what]);
            }
            Check.due("of(" + k + ", 3)", x.of(k, 3), 0);
            Check.due("of(" + k + ", 4)", x.of(k, 4), 0);
            Check.due("of(" + k + ", 5)", x.of(k, 5), BumperCars.NONE);
        }
        Check.due("count(0)", x.count(0), 5);
    }

    private static void carsRefused() {
        BumperCars x = new BumperCars();
        int[][] wrong = {{-1, 0, 0}, {6, 0, 0}, {0, -1, 0}, {0, 24, 0}, {0, 0, -1}, {0, 0, 4},
            {Integer.MAX_VALUE, 0, 0}, {0, Integer.MIN_VALUE, 0}};
        for (int[] w : wrong) {
            Check.refused(x, "car bad", () -> x.car(w[0], w[1], w[2]), BumperCars.BAD, 0);
        }
        x.car(0, 7, 0);
        Check.refused(x, "car there", () -> x.car(1, 7, 1), BumperCars.NO, 1);
        Check.refused(x, "car there, bad kind", () -> x.car(6, 7, 1), BumperCars.BAD, 0);
        for (int cell = 8; cell < 12; cell++) {
            x.car(0, cell, 0);
        }
        Check.refused(x, "a 6th car", () -> x.car(0, 0, 0), BumperCars.FULL, 2);
        Check.refused(x, "a 6th car where one is", () -> x.car(0, 11, 0), BumperCars.NO, 1);
        Check.refused(x, "a 6th car, bad way", () -> x.car(0, 0, 4), BumperCars.BAD, 0);
    }

    private static void carEndsUndo() {
        BumperCars x = new BumperCars();
        x.car(0, 0, 0);
        x.tick(1);
        x.hat(0);
        Check.due("ahead of a car", x.count(4), 2);
        x.car(0, 0, 0);
        Check.due("behind a car", x.count(4), 0);
        BumperCars y = new BumperCars();
        y.car(0, 0, 0);
        y.hat(0);
        y.car(0, 0, 0);
        Check.due("a refused car ends nothing", y.count(4), 1);
    }

    private static void type() {
        BumperCars x = new BumperCars();
        Check.refused(x, "type(-1)", () -> x.type(-1), BumperCars.BAD, 0);
        Check.refused(x, "type(128)", () -> x.type(128), BumperCars.BAD, 0);
        Check.due("type(0)", x.type(0), 1);
        Check.due("type(127)", x.type(127), 2);
        for (int i = 3; i <= 150; i++) {
            Check.due("type 32", x.type(32), i);
        }
        Check.refused(x, "type the 151st", () -> x.type(32), BumperCars.FULL, 2);
        Check.refused(x, "type the 151st, bad", () -> x.type(128), BumperCars.BAD, 0);
        Check.due("count(5)", x.count(5), 150);
        Check.due("read: a byte that begins none", x.read(), -10);
    }

    private static void clear() {
        BumperCars x = new BumperCars();
        Check.due("clear() of none", x.clear(), 0);
        Check.type(x, "floor");
        Check.due("clear()", x.clear(), 5);
        Check.due("count(5)", x.count(5), 0);
        Check.type(x, "floor;");
        Check.due("read()", x.read(), 1);
        Check.due("the text stays", x.count(5), 6);
        Check.due("clear() again", x.clear(), 6);
        Check.due("read() of none", x.read(), -10);
    }

    private static void readWhole() {
        BumperCars x = new BumperCars();
        Check.due("read", Check.read(x, "floor;car 5 23 3;car 3 9 2;hat 1;foe 0 1;car 0 0 0;hat 0;foe 1 2;foe 0 2;"), 9);
        int[][] due = {{5, 23, 3, 0, 0, 2}, {3, 9, 2, 0, 0, 2}, {0, 0, 0, 0, 0, -1}};
        for (int k = 0; k < 3; k++) {
            for (int what = 0; what < 6; what++) {
                Check.due("read: of(" + k + ", " + what + ")", x.of(k, what), due[k][what]);
            }
        }
        Check.due("read: count(0)", x.count(0), 3);
        Check.due("read: the hat", x.hat(-1), 0);
        BumperCars y = new BumperCars();
        String longest = "floor;car 0 0 0;car 1 1 1;car 2 2 2;car 3 3 3;car 5 23 0;";
        Check.due("read: five cars", Check.read(y, longest), 6);
        Check.due("read: the fifth", y.at(23), 4);
        StringBuilder whole = new StringBuilder(longest);
        while (whole.length() < 144) {
            whole.append("hat 4;");
        }
        while (whole.length() < 150) {
            whole.append(' ');
        }
        int hats = (144 - longest.length() + 5) / 6;
        Check.due("read: 150 bytes", Check.read(y, whole.toString()), 6 + hats);
        Check.due("read: the hat", y.hat(0), 4);
    }

    private static void readTokens() {
        BumperCars x = new BumperCars();
        Check.due("floor alone", Check.read(x, "floor;"), 1);
        Check.due("blanks", Check.read(x, "   floor   ;   car   00   07   03   ;   "), 2);
        Check.due("blanks: the car", x.at(7), 0);
        Check.due("blanks: its way", x.of(0, 2), 3);
        Check.due("no blanks", Check.read(x, "floor;car5 23 1;hat0;"), 3);
        Check.due("no blanks: the car", x.of(0, 0), 5);
    }

    private static void fault(String text, int place) {
        BumperCars x = new BumperCars();
        x.car(3, 4, 1);
        x.hat(0);
        int typed = text.length();
        long before = x.digest();
        int taken = x.count(5);
        Check.due("read of '" + text + "'", Check.read(x, text), -10 - place);
        Check.due("'" + text + "' is kept", x.clear(), typed);
        Check.type(x, " ".repeat(taken));
        Check.due("'" + text + "': all stays", x.digest(), before);
        for (int what = 0; what < 3; what++) {
            Check.due("'" + text + "': status " + what, x.status(what), 0);
        }
    }

    private static void readFaults() {
        String[] early = {"", "  ", "floor", "floor ", "floor;car", "floor;car 0", "floor;car 0 0", "floor;car 0 0 0",
            "floor;car 0 0 0;hat", "floor;car 0 0 0;hat 0", "floor;car 0 0 0;foe", "floor;car 0 0 0;foe 0",
            "floor;car 0 0 0;car 0 1 0;foe 0 1 "};
        for (String text : early) {
            fault(text, text.length());
        }
        Object[][] wrong = {
            {"flo", 0}, {"xloor;", 0}, {"floox;", 0}, {"zfloor;", 0}, {"afloor;", 0}, {"floorz;", 0}, {"floora;", 0}, {"floors;", 0}, {"car 0 0 0;", 0}, {"hat 0;", 0}, {";", 0}, {" ;floor;", 1}, {"7;", 0},
            {"Floor;", 0}, {"floor,", 5}, {"floor floor;", 6}, {"floor 1;", 6}, {"floor;;", 6}, {"floor; floor;", 7},
            {"floor;5;", 6}, {"floor;cars 0 0 0;", 6}, {"floor;ca", 6}, {"floor;carz 0 0 0;", 6}, {"floor;xar 0 0 0;", 6},
            {"floor;xat 0;", 6}, {"floor;hax 0;", 6}, {"floor;fox 0 1;", 6}, {"floor;hats 0;", 6}, {"floor;fo 0 1;", 6},
            {"floor;car;", 9}, {"floor;car x", 10}, {"floor;car 6 0 0;", 10}, {"floor;car 0 24 0;", 12},
            {"floor;car 0 0 4;", 14}, {"floor;car 0 0 10;", 14}, {"floor;car 0 0;", 13}, {"floor;car 0 0 0 0;", 16},
            {"floor;car 000 0 0;", 10}, {"floor;car 0 0 000;", 14}, {"floor;car 0 0000 0;", 12}, {"floor;123;", 6},
            {"floor;car 0 0 0 123;", 16}, {"floor;car -1", 10}, {"floor;car 0 0 0:", 15},
            {"floor;car 0 0 0;car 1 0 0;", 22}, {"floor;car 0 5 0;car 1 05 0;", 22},
            {"floor;hat 0;", 10}, {"floor;car 0 0 0;hat 1;", 20}, {"floor;car 0 0 0;hat 0 0;", 22},
            {"floor;car 0 0 0;hat ;", 20}, {"floor;car 0 0 0;foe 1 0;", 20}, {"floor;car 0 0 0;foe 0 1;", 22},
            {"floor;car 0 0 0;foe 0 0;", 22}, {"floor;car 0 0 0;car 0 1 0;foe 0 1 0;", 34},
            {"floor;car 0 0 0;car 0 1 0;foe 1 1;", 32}, {"floor;car 0 0 0;car 0 1 0;hat 2;car 0 2 0;", 30},
            {"floor;car 0 0 0;car 0 1 0;car 0 2 0;car 0 3 0;car 0 4 0;car 9 9 9;", 56},
            {"floor\t;", 5}, {"floor;\n", 6}, {"floor;car 0 0 0;@", 16}, {"floor;car 0 0 0;`", 16},
            {"floor;car 0 0 0;{", 16}, {"floor;car 0 0 0;/", 16}, {"floor;car 0 / 0;", 12}, {"floor;car 0 : 0;", 12},
        };
        for (Object[] w : wrong) {
            fault((String) w[0], (Integer) w[1]);
        }
    }

    private static void readLeavesTheRest() {
        BumperCars x = busy();
        x.bell(3, 5);
        long up = x.part(0);
        x.image(0);
        x.car(6, 0, 0);
        Check.due("read", Check.read(x, "floor;car 2 1 2;"), 2);
        Check.due("read: cars", x.count(0), 1);
        Check.due("read: tick", x.count(1), 0);
        Check.due("read: given", x.count(2), 0);
        Check.due("read: struck", x.of(0, 3), 0);
        Check.due("read: notes", x.count(3), 0);
        Check.due("read: undo", x.count(4), 0);
        Check.due("read: undo()", x.undo(), BumperCars.NO);
        Check.due("read: text", x.count(5), 16);
        Check.due("read: fraction", x.part(0), up);
        Check.due("read: status", x.status(0), 1);
        Check.due("read: nobody has the hat", x.hat(0), BumperCars.NONE);
        Check.due("read: image", x.from(0), 1);
        Check.due("read: image's cars", x.count(0), 2);
        Check.due("read: image's tick", x.count(1), 3);
        Check.due("read: the image leaves the text", x.count(5), 16);
    }

    private static void readFaultLeavesAll() {
        BumperCars x = busy();
        Check.type(x, "floor;car 0 0 0;hat 1;");
        Check.asked(x, "read()", () -> x.read(), -30);
        Check.due("undo still", x.count(4), 2);
        Check.due("undo()", x.undo(), 0);
    }
}
