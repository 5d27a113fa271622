/** What is empty at first, and what is full: the last that still comes, the first that does not. */
public final class EmptyAndFullTest {
    private static final int NONE = BumperCars.NONE;
    private static final int NO = BumperCars.NO;

    public static void main(String[] args) {
        noCarsAtFirst();
        noHatAtFirst();
        carsComeUnstruckWithoutFoe();
        tickNoughtAtFirst();
        textEmptyAtFirst();
        noNotesAtFirst();
        nothingToUndoAtFirst();
        noImageAtFirst();
        fractionAtFirst();
        nothingRefusedAtFirst();
        fiveCars();
        bytesOfTheText();
        sixNotes();
        notesOfAllCarsTogether();
        eightTicksToUndo();
        eightPushesToUndo();
        eightHatsToUndo();
        eightOfAllSorts();
        eightAgainBehindUndo();
        noneToUndoBehindACar();
        twoImages();
        fullAndEmptiedAgain();
        Check.end();
    }

    /** "no CARS" */
    private static void noCarsAtFirst() {
        Scene.NEW.asked("count(0)", x -> x.count(0), 0);
        Scene.NEW.asked("cluster(0)", x -> x.cluster(0), 0);
        Scene.NEW.asked("cluster(1)", x -> x.cluster(1), 0);
        Scene.NEW.asked("stand(0)", x -> x.stand(0), 0);
        Scene.NEW.asked("stand(1)", x -> x.stand(1), 0);
        Scene.NEW.asked("bumps(60)", x -> x.bumps(60), 0);
        for (int cell = 0; cell < 24; cell++) {
            int at = cell;
            Scene.NEW.asked("at(" + cell + ")", x -> x.at(at), NONE);
        }
        Scene.NEW.no("rounds(0, 0)", x -> x.rounds(0, 0));
        Scene.NEW.no("rounds(999999, 60)", x -> x.rounds(999999, 60));
        Check.due("floor()", new BumperCars().floor(), 0);
        Check.due("tick(60) of nobody", new BumperCars().tick(60), 0);
    }

    /** "THE HAT is with one CAR, or none (at first)" */
    private static void noHatAtFirst() {
        Check.due("hat(-1) of a new one", new BumperCars().hat(NONE), NONE);
        BumperCars x = new BumperCars();
        x.car(1, 7, 3);
        x.car(1, 9, 3);
        Check.due("a chaser without a hat", x.way(0), 3);
        Check.due("who had it", x.hat(1), NONE);
        Check.due("who had it then", x.hat(0), 1);
        Check.due("with one alone: the other chases", x.way(1), 2);
        Check.due("with one alone: this one does not", x.way(0), 3);
    }

    /** "STRUCK, GIVEN (bumps; 0 at first), the FOE of each (... none at first)" */
    private static void carsComeUnstruckWithoutFoe() {
        BumperCars x = Scene.FULL.made();
        x.floor();
        for (int k = 0; k < 5; k++) {
            x.car(0, 4 * k, 1);
            Check.due("its struck", x.of(k, 3), 0);
            Check.due("its given", x.of(k, 4), 0);
            Check.due("its foe", x.of(k, 5), NONE);
        }
    }

    /** "TICKS have numbers, 0 at first." A car that comes does not begin them anew. */
    private static void tickNoughtAtFirst() {
        BumperCars x = new BumperCars();
        Check.due("the tick at first", x.count(1), 0);
        x.tick(1);
        x.car(4, 7, 0);
        Check.due("the tick behind one", x.count(1), 1);
        Check.due("a small one in tick 1", x.way(0), 1);
    }

    private static void textEmptyAtFirst() {
        Scene.NEW.asked("count(5)", x -> x.count(5), 0);
        Scene.NEW.asked("read()", x -> x.read(), -10);
        Scene.NEW.asked("clear()", x -> x.clear(), 0);
    }

    private static void noNotesAtFirst() {
        Scene.NEW.asked("count(3)", x -> x.count(3), 0);
        Scene.NEW.asked("forget()", x -> x.forget(), 0);
        Scene.ONE.asked("is(0)", x -> x.is(0), 63);
    }

    private static void nothingToUndoAtFirst() {
        Scene.NEW.asked("count(4)", x -> x.count(4), 0);
        Scene.NEW.no("undo()", x -> x.undo());
        Scene.ONE.no("undo()", x -> x.undo());
    }

    /** "NO: none was kept": one that is kept is not the other. */
    private static void noImageAtFirst() {
        for (int i = 0; i < 2; i++) {
            int one = i;
            Scene.NEW.no("from(" + i + ")", x -> x.from(one));
            Scene.ONE.no("from(" + i + ")", x -> x.from(one));
            BumperCars x = Scene.ONE.made();
            x.image(i);
            Check.due("from the other", x.from(1 - i), NO);
            Check.due("from this", x.from(i), 1);
        }
    }

    /** "THE FRACTION is 0 by 1 at first" */
    private static void fractionAtFirst() {
        Scene.NEW.asked("part(0)", x -> x.part(0), 0);
        Scene.NEW.asked("part(1)", x -> x.part(1), 1);
    }

    private static void nothingRefusedAtFirst() {
        for (int what = 0; what < 3; what++) {
            int asked = what;
            Scene.NEW.asked("status(" + what + ")", x -> x.status(asked), 0);
        }
    }

    /** "FULL: 5." */
    private static void fiveCars() {
        BumperCars x = new BumperCars();
        for (int k = 0; k < 5; k++) {
            Check.due("car " + k, x.car(k, 23 - 5 * k, k % 4), k);
            Check.due("cars", x.count(0), k + 1);
        }
        Check.due("a 6th", x.car(0, 0, 0), BumperCars.FULL);
        Check.due("a 7th", x.car(5, 1, 3), BumperCars.FULL);
        Check.due("cars still", x.count(0), 5);
        Check.due("nobody there", x.at(0), NONE);
        Scene.FULL.full("car(0, 0, 0)", y -> y.car(0, freeCell(y), 0));
        Check.due("floor()", x.floor(), 5);
        Check.due("the first again", x.car(0, 0, 0), 0);
    }

    private static int freeCell(BumperCars x) {
        int cell = 0;
        while (x.at(cell) != NONE) {
            cell++;
        }
        return cell;
    }

    /** "(150 bytes at most)" */
    private static void bytesOfTheText() {
        BumperCars x = new BumperCars();
        for (int i = 1; i <= 150; i++) {
            Check.due("byte " + i, x.type(i % 128), i);
            Check.due("bytes", x.count(5), i);
        }
        Check.due("byte 151", x.type(32), BumperCars.FULL);
        Check.due("bytes still", x.count(5), 150);
        Check.due("clear()", x.clear(), 150);
        Check.due("the first again", x.type(0), 1);
        for (int c : new int[] {0, 32, 59, 127}) {
            Scene.FULL.full("type(" + c + ")", y -> y.type(c));
        }
    }

    /** "NOTES 0 .. 5", "FULL: 6." */
    private static void sixNotes() {
        BumperCars x = Scene.ONE.made();
        for (int i = 1; i <= 6; i++) {
            Check.due("note " + i, x.note(0, 2, 0, 0, -1, -1, 0), i);
            Check.due("notes", x.count(3), i);
        }
        Check.due("a 7th", x.note(0, 2, 0, 0, -1, -1, 1), BumperCars.FULL);
        Check.due("notes still", x.count(3), 6);
        Check.due("the 7th is not there", x.is(0), 63);
        Check.due("forget()", x.forget(), 6);
        Check.due("forget() again", x.forget(), 0);
        Check.due("the first again", x.note(0, 2, 0, 0, -1, -1, 0), 1);
        Scene.FULL.full("note", y -> y.note(0, 2, 0, 0, -1, -1, 0));
    }

    private static void notesOfAllCarsTogether() {
        BumperCars x = new BumperCars();
        x.car(0, 0, 0);
        x.car(0, 9, 0);
        for (int i = 1; i <= 6; i++) {
            Check.due("note " + i, x.note(i % 2, 2, 0, 0, -1, -1, i == 6 ? 1 : 0), i);
        }
        Check.due("a 7th", x.note(1, 2, 0, 0, -1, -1, 0), BumperCars.FULL);
        Check.due("the 6th one counts", x.is(0), 0);
        Check.due("for its own car", x.is(1), 63);
    }

    /** "(8 at most ...)": the oldest is given up, not the newest. */
    private static void eightTicksToUndo() {
        for (int made = 0; made <= 11; made++) {
            BumperCars x = Check.floor("floor;car 0 7 0;");
            for (int i = 1; i <= made; i++) {
                x.tick(1);
                Check.due("may be undone behind " + i, x.count(4), Math.min(i, 8));
            }
            int kept = Math.min(made, 8);
            for (int i = 1; i <= kept; i++) {
                Check.due("undo " + i + " of " + made, x.undo(), made - i);
                Check.due("left", x.count(4), kept - i);
            }
            Check.due("no more of " + made, x.undo(), NO);
            Check.due("the tick stays", x.count(1), made - kept);
        }
    }

    private static void eightPushesToUndo() {
        BumperCars x = Check.floor("floor;car 0 0 0;");
        for (int i = 1; i <= 9; i++) {
            Check.due("push", x.push(0, i, i % 4), i - 1);
            Check.due("may be undone", x.count(4), Math.min(i, 8));
        }
        for (int i = 8; i >= 1; i--) {
            Check.due("undo", x.undo(), 0);
            Check.due("where it was", x.of(0, 1), i);
            Check.due("its way", x.of(0, 2), i % 4);
        }
        Check.due("the ninth", x.undo(), NO);
        Check.due("where it stays", x.of(0, 1), 1);
    }

    private static void eightHatsToUndo() {
        BumperCars x = Check.floor("floor;car 0 0 0;car 0 9 0;");
        for (int i = 1; i <= 9; i++) {
            x.hat(i % 3 - 1);
            Check.due("may be undone", x.count(4), Math.min(i, 8));
        }
        for (int i = 8; i >= 1; i--) {
            x.undo();
            x.image(0);
            Check.due("who has it", x.hat(-1), i % 3 - 1);
            x.from(0);
        }
        Check.due("the ninth", x.undo(), NO);
    }

    private static void eightOfAllSorts() {
        BumperCars x = Check.floor("floor;car 3 7 0;car 3 8 2;");
        long[] digests = new long[10];
        for (int i = 0; i < 10; i++) {
            digests[i] = x.digest();
            if (i % 3 == 0) {
                x.tick(60);
            } else if (i % 3 == 1) {
                x.hat(1);
            } else {
                x.push(1, 23, i % 4);
            }
        }
        for (int i = 9; i >= 2; i--) {
            x.undo();
            Check.due("left", x.count(4), i - 2);
            long want = digests[i] + leap(i - 2) - leap(Math.min(i, 8));
            Check.due("as ahead of " + i, x.digest(), want);
        }
        Check.due("no more", x.undo(), NO);
    }

    /** What count(4) adds to a digest of two cars and no notes. */
    private static long leap(int undoable) {
        long h = undoable;
        for (int i = 0; i < 1 + 1 + 2 * 6 + 2; i++) {
            h *= 31;
        }
        return h;
    }

    private static void eightAgainBehindUndo() {
        BumperCars x = Check.floor("floor;car 0 7 0;");
        for (int i = 0; i < 9; i++) {
            x.tick(1);
        }
        x.undo();
        x.undo();
        x.tick(2);
        x.tick(2);
        Check.due("eight again", x.count(4), 8);
        x.tick(2);
        Check.due("still eight", x.count(4), 8);
        int[] ticks = {11, 9, 7, 6, 5, 4, 3, 2};
        for (int tick : ticks) {
            Check.due("undo", x.undo(), tick);
        }
        Check.due("no more", x.undo(), NO);
    }

    /** "(... behind a CAR that comes none may be)" */
    private static void noneToUndoBehindACar() {
        for (int made = 0; made <= 9; made++) {
            BumperCars x = Check.floor("floor;car 0 7 0;");
            for (int i = 0; i < made; i++) {
                x.tick(1);
            }
            x.car(0, 0, 0);
            Check.due("none may be undone", x.count(4), 0);
            Check.due("undo()", x.undo(), NO);
            x.tick(1);
            Check.due("but what is behind it", x.undo(), made);
            Check.due("and no more", x.undo(), NO);
            Check.due("the car stays", x.at(0), 1);
        }
    }

    /** "IMAGES 0, 1": each by itself, the newest of it. */
    private static void twoImages() {
        BumperCars x = Check.floor("floor;car 0 7 0;");
        for (int i = 0; i < 5; i++) {
            Check.due("image", x.image(i % 2), 1);
            x.tick(1);
        }
        x.from(0);
        Check.due("image 0", x.count(1), 4);
        x.from(1);
        Check.due("image 1", x.count(1), 3);
    }

    /** What is full in an image comes back as full. */
    private static void fullAndEmptiedAgain() {
        BumperCars x = Scene.FULL.made();
        x.image(0);
        x.floor();
        Check.due("a car comes", x.car(0, 0, 0), 0);
        Check.due("a note comes", x.note(0, 0, 0, 0, 0, 0, 0), 1);
        x.from(0);
        Check.due("a 6th car", x.car(0, freeCell(x), 0), BumperCars.FULL);
        Check.due("a 7th note", x.note(0, 0, 0, 0, 0, 0, 0), BumperCars.FULL);
        Check.due("may be undone", x.count(4), 8);
        Check.due("the text is no part of it", x.type(0), BumperCars.FULL);
    }
}
