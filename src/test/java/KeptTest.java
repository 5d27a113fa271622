/** Promises 27 to 32: part, image, from, status, count, digest; and the constants. */
public final class KeptTest {
    public static void main(String[] args) {
        constants();
        part();
        images();
        imagesKeepUndo();
        imagesLeaveTheRest();
        imagesRefused();
        status();
        count();
        digest();
        digestOfEachScene();
        Check.end();
    }

    private static void constants() {
        Check.due("NONE", BumperCars.NONE, -1);
        Check.due("BAD", BumperCars.BAD, -2);
        Check.due("NO", BumperCars.NO, -3);
        Check.due("FULL", BumperCars.FULL, -4);
    }

    private static void part() {
        BumperCars x = Check.floor("floor;car 3 7 0;car 3 8 2;");
        Check.asked(x, "part(0)", () -> x.part(0), 0);
        Check.asked(x, "part(1)", () -> x.part(1), 1);
        x.bell(2, 5);
        Check.asked(x, "part(0)", () -> x.part(0), 3);
        Check.asked(x, "part(1)", () -> x.part(1), 2);
        Check.refused(x, "part(2)", () -> x.part(2), BumperCars.BAD, 0);
        Check.refused(x, "part(-1)", () -> x.part(-1), BumperCars.BAD, 0);
    }

    private static void images() {
        BumperCars x = Check.floor("floor;car 3 7 0;car 3 8 2;hat 0;");
        x.note(1, 2, 3, 2, 1, 0, 1);
        x.tick(2);
        long first = x.digest();
        Check.asked(x, "image(0)", () -> x.image(0), 1);
        x.tick(7);
        x.forget();
        x.note(0, 9, 1, 1, -1, 2, 3);
        x.hat(1);
        x.car(4, 23, 1);
        long second = x.digest();
        Check.asked(x, "image(1)", () -> x.image(1), 1);
        Check.due("from(0)", x.from(0), 1);
        Check.due("as in image 0", x.digest(), first);
        Check.due("its note", x.is(1), 2);
        Check.due("not the other one", x.is(0), 63);
        x.tick(5);
        x.push(0, 20, 1);
        x.note(0, 0, 0, 0, 0, 0, 0);
        Check.due("from(1)", x.from(1), 1);
        Check.due("as in image 1", x.digest(), second);
        Check.due("from(0) again", x.from(0), 1);
        Check.due("image 0 has not moved", x.digest(), first);
        x.tick(1);
        long third = x.digest();
        x.image(0);
        x.floor();
        x.from(0);
        Check.due("image 0 is kept anew", x.digest(), third);
        x.from(1);
        Check.due("image 1 is still there", x.digest(), second);
    }

    private static void imagesKeepUndo() {
        BumperCars x = Check.floor("floor;car 3 7 0;car 3 8 2;hat 0;");
        long first = x.digest();
        x.tick(2);
        long second = x.digest();
        x.push(0, 23, 2);
        x.image(0);
        for (int i = 0; i < 9; i++) {
            x.tick(3);
        }
        x.from(0);
        Check.due("from: may be undone", x.count(4), 2);
        Check.due("from: undo", x.undo(), 2);
        Check.due("from: undone", x.digest(), second);
        Check.due("from: undo", x.undo(), 0);
        Check.due("from: undone", x.digest(), first);
        Check.due("from: no more", x.undo(), BumperCars.NO);
        x.from(0);
        Check.due("from again: may be undone", x.count(4), 2);
        Check.due("from is not undone itself", x.undo(), 2);
        x.floor();
        x.image(1);
        x.hat(-1);
        x.from(1);
        Check.due("an image of nothing to undo", x.undo(), BumperCars.NO);
    }

    private static void imagesLeaveTheRest() {
        BumperCars x = Check.floor("floor;car 3 7 0;car 3 8 2;");
        x.image(0);
        x.clear();
        x.type(32);
        x.bell(2, 5);
        x.at(24);
        x.tick(3);
        x.from(0);
        Check.due("from: tick", x.count(1), 0);
        Check.due("from: text", x.count(5), 1);
        Check.due("from: above", x.part(0), 3);
        Check.due("from: below", x.part(1), 2);
        Check.due("from: status", x.status(0), 1);
        Check.due("from: the text's bytes", x.read(), -11);
    }

    private static void imagesRefused() {
        BumperCars x = new BumperCars();
        Check.refused(x, "image(-1)", () -> x.image(-1), BumperCars.BAD, 0);
        Check.refused(x, "image(2)", () -> x.image(2), BumperCars.BAD, 0);
        Check.refused(x, "from(-1)", () -> x.from(-1), BumperCars.BAD, 0);
        Check.refused(x, "from(2)", () -> x.from(2), BumperCars.BAD, 0);
        Check.refused(x, "from(0)", () -> x.from(0), BumperCars.NO, 1);
        x.image(1);
        Check.refused(x, "from(0) still", () -> x.from(0), BumperCars.NO, 1);
        Check.asked(x, "from(1)", () -> x.from(1), 1);
    }

    private static void status() {
        BumperCars x = new BumperCars();
        x.at(24);
        x.at(-1);
        x.undo();
        x.undo();
        x.undo();
        Check.due("status(0)", x.status(0), 2);
        Check.due("status(1)", x.status(1), 3);
        Check.due("status(2)", x.status(2), 0);
        Check.refused(x, "status(3)", () -> x.status(3), -1, 0);
        Check.refused(x, "status(-1)", () -> x.status(-1), -1, 0);
        Check.due("status(0)", x.status(0), 4);
        for (int cell = 0; cell < 7; cell++) {
            x.car(0, cell, 0);
        }
        Check.due("status(2)", x.status(2), 2);
        x.floor();
        Check.due("status(2) behind floor()", x.status(2), 2);
    }

    private static void count() {
        BumperCars x = Check.floor("floor;car 3 7 0;car 3 8 2;hat 0;");
        x.tick(4);
        x.tick(3);
        x.hat(1);
        x.note(0, 0, 0, 0, 0, 0, 0);
        int[] due = {2, 7, 14, 1, 3, 32};
        for (int what = 0; what < 6; what++) {
            int asked = what;
            Check.asked(x, "count(" + what + ")", () -> x.count(asked), due[what]);
        }
        Check.refused(x, "count(6)", () -> x.count(6), BumperCars.BAD, 0);
        Check.refused(x, "count(-1)", () -> x.count(-1), BumperCars.BAD, 0);
    }

    /** Without cars and notes, and with as many as there can be. */
    private static void digestOfEachScene() {
        for (Scene scene : Scene.values()) {
            BumperCars x = scene.made();
            long h = 1301;
            for (int what = 0; what < 6; what++) {
                h = 31 * h + x.count(what);
            }
            h = 31 * h + (scene == Scene.FULL ? 2 : scene == Scene.RICH ? 0 : -1);
            for (int k = 0; k < scene.cars; k++) {
                for (int what = 0; what < 6; what++) {
                    h = 31 * h + x.of(k, what);
                }
            }
            for (int[] note : notesOf(scene)) {
                for (int v : note) {
                    h = 31 * h + v;
                }
            }
            h = 31 * (31 * h + x.part(0)) + x.part(1);
            Check.due(scene + ": digest()", x.digest(), h);
        }
    }

    private static int[][] notesOf(Scene scene) {
        if (scene == Scene.RICH) {
            return new int[][] {{1, 5, 2, 0, 1, -1, 1}, {0, 4, 1, 2, -1, 3, 3}};
        }
        int[][] notes = new int[scene == Scene.FULL ? 6 : 0][];
        for (int i = 0; i < notes.length; i++) {
            notes[i] = new int[] {i % 5, i, i % 4, 0, -1, -1, i % 4};
        }
        return notes;
    }

    private static void digest() {
        BumperCars x = Check.floor("floor;car 3 7 0;car 2 8 2;hat 1;");
        x.tick(4);
        x.note(0, 1, 2, 1, 3, -1, 2);
        x.note(1, 99, 0, 2, -1, 0, 3);
        x.bell(3, 3);
        long h = 1301;
        for (int what = 0; what < 6; what++) {
            h = 31 * h + x.count(what);
        }
        h = 31 * h + 1;
        for (int k = 0; k < 2; k++) {
            for (int what = 0; what < 6; what++) {
                h = 31 * h + x.of(k, what);
            }
        }
        for (int v : new int[] {0, 1, 2, 1, 3, -1, 2, 1, 99, 0, 2, -1, 0, 3}) {
            h = 31 * h + v;
        }
        h = 31 * h + x.part(0);
        h = 31 * h + x.part(1);
        Check.due("digest()", x.digest(), h);
        Check.due("digest() changes nothing", x.digest(), h);
    }
}
