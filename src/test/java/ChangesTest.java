import java.util.List;
import java.util.function.Consumer;
import java.util.function.ToLongFunction;

/** What each call changes, and all that it leaves. */
public final class ChangesTest {
    private static final Scene[] WITH_CARS = {Scene.ONE, Scene.RICH, Scene.FULL};
    /** Parts of all that is seen; without an image from leaves what is now, so that there is only this to compare. */
    private static final int[] STATUS_ALONE = {0};
    private static final int[] IMAGES_TOO = {0, 2, 3, 4};

    public static void main(String[] args) {
        asksChangeNothing();
        asksOfCarsChangeNothing();
        floorLeaves();
        readLeaves();
        carLeaves();
        clearAndTypeLeave();
        ticksAndUndoLeave();
        notesLeave();
        bellLeaves();
        imageLeaves();
        fromLeaves();
        imageIsApart();
        Check.end();
    }

    /** The parts of all that is seen: the status, the floor with its past, image 0, image 1, the text. */
    private static List<Long> seen(List<Long> whole, int part) {
        int[] begins = {0, 3, 22, 42, 62, 82};
        Check.that("all is seen", whole.size() == 82);
        return whole.subList(begins[part], begins[part + 1]);
    }

    private static void same(String what, List<Long> one, List<Long> other, int... parts) {
        for (int part : parts) {
            Check.that(what + ": part " + part, seen(one, part).equals(seen(other, part)));
        }
    }

    private static void leavesAll(Scene s, String what, Consumer<BumperCars> calls) {
        BumperCars x = s.made();
        calls.accept(x);
        Check.that(s + ": " + what + " leaves all", Scene.whole(x).equals(Scene.whole(s.made())));
    }

    private static void changesNothing(Scene s, String what, ToLongFunction<BumperCars> call) {
        BumperCars x = s.made();
        long answer = call.applyAsLong(x);
        Check.due(s + ": " + what + " again", call.applyAsLong(x), answer);
        Check.that(s + ": " + what + " changes nothing", Scene.whole(x).equals(Scene.whole(s.made())));
    }

    /** "(Nothing is changed by these.)" */
    private static void asksChangeNothing() {
        for (Scene s : Scene.values()) {
            changesNothing(s, "bumps(0)", x -> x.bumps(0));
            changesNothing(s, "bumps(60)", x -> x.bumps(60));
            changesNothing(s, "digest()", x -> x.digest());
            for (int i = 0; i < 2; i++) {
                int what = i;
                changesNothing(s, "cluster(" + i + ")", x -> x.cluster(what));
                changesNothing(s, "stand(" + i + ")", x -> x.stand(what));
                changesNothing(s, "part(" + i + ")", x -> x.part(what));
            }
            for (int i = 0; i < 6; i++) {
                int what = i;
                changesNothing(s, "count(" + i + ")", x -> x.count(what));
            }
            for (int i = 0; i < 3; i++) {
                int what = i;
                changesNothing(s, "status(" + i + ")", x -> x.status(what));
            }
            for (int i = 0; i < 24; i++) {
                int cell = i;
                changesNothing(s, "at(" + i + ")", x -> x.at(cell));
            }
        }
    }

    private static void asksOfCarsChangeNothing() {
        for (Scene s : WITH_CARS) {
            for (int i = 0; i < s.cars; i++) {
                int k = i;
                changesNothing(s, "way", x -> x.way(k));
                changesNothing(s, "then(0)", x -> x.then(k, 0, 0));
                changesNothing(s, "then(60)", x -> x.then(k, 60, 3));
                changesNothing(s, "when", x -> x.when(k));
                changesNothing(s, "steer", x -> x.steer(k, 5, 0, -1));
                changesNothing(s, "hunt", x -> x.steer(k, 5, 1, 4));
                changesNothing(s, "is", x -> x.is(k));
                changesNothing(s, "look", x -> x.look(k));
                changesNothing(s, "rounds", x -> x.rounds(77, 60));
                for (int what = 0; what < 7; what++) {
                    int one = what;
                    changesNothing(s, "of", x -> x.of(k, one));
                }
                for (int q = 0; q < s.cars; q++) {
                    int other = q;
                    if (q != k) {
                        changesNothing(s, "two", x -> x.two(k, other, -1));
                        changesNothing(s, "two", x -> x.two(k, other, 0));
                    }
                }
            }
        }
    }

    /** "All as at first (but for IMAGES, THE TEXT, THE FRACTION, STATUS)" */
    private static void floorLeaves() {
        for (Scene s : Scene.values()) {
            BumperCars x = s.made();
            Check.due(s + ": floor()", x.floor(), s.cars);
            for (int what = 0; what < 5; what++) {
                Check.due(s + ": floor: count(" + what + ")", x.count(what), 0);
            }
            Check.due(s + ": floor: the hat", x.hat(-1), BumperCars.NONE);
            x.undo();
            BumperCars y = s.made();
            Check.due(s + ": floor: above", x.part(0), y.part(0));
            Check.due(s + ": floor: below", x.part(1), y.part(1));
            Check.due(s + ": floor: bytes", x.count(5), y.count(5));
            same(s + ": floor", Scene.whole(x), Scene.whole(y), s.images > 0 ? IMAGES_TOO : STATUS_ALONE);
        }
    }

    /** "A FLOOR that is read takes the place of all but IMAGES, THE TEXT, THE FRACTION, STATUS (TICK, STRUCK ..." */
    private static void readLeaves() {
        for (Scene s : Scene.values()) {
            BumperCars x = s.made();
            BumperCars y = s.made();
            Check.read(x, "floor;car 3 9 1;car 2 8 2;hat 1;foe 1 0;");
            Check.read(y, "floor;floor;");
            int[] due = {2, 0, 0, 0, 0, 40};
            for (int what = 0; what < 6; what++) {
                Check.due(s + ": read: count(" + what + ")", x.count(what), due[what]);
            }
            int[][] cars = {{3, 9, 1, 0, 0, -1}, {2, 8, 2, 0, 0, 0}};
            for (int k = 0; k < 2; k++) {
                for (int what = 0; what < 6; what++) {
                    Check.due(s + ": read: of", x.of(k, what), cars[k][what]);
                }
            }
            Check.due(s + ": read: above", x.part(0), y.part(0));
            Check.due(s + ": read: below", x.part(1), y.part(1));
            x.clear();
            y.clear();
            same(s + ": read", Scene.whole(x), Scene.whole(y), s.images > 0 ? IMAGES_TOO : STATUS_ALONE);
        }
    }

    /** A car that comes changes nothing of the others, the hat, the tick, the notes. */
    private static void carLeaves() {
        BumperCars x = Scene.RICH.made();
        BumperCars y = Scene.RICH.made();
        Check.due("car", x.car(4, 23, 2), 3);
        for (int k = 0; k < 3; k++) {
            for (int what = 0; what < 7; what++) {
                Check.due("car: of", x.of(k, what), y.of(k, what));
            }
        }
        for (int what : new int[] {1, 2, 3, 5}) {
            Check.due("car: count(" + what + ")", x.count(what), y.count(what));
        }
        Check.due("car: the hat", x.hat(-1), y.hat(-1));
        same("car", Scene.whole(x), Scene.whole(y), 0, 2, 3, 4);
    }

    private static void clearAndTypeLeave() {
        leavesAll(Scene.RICH, "clear and type", x -> {
            Check.due("clear()", x.clear(), Scene.TEXT.length());
            Check.due("clear() again", x.clear(), 0);
            Check.type(x, Scene.TEXT);
        });
    }

    /** "UNDO: CELLS, WAYS, STRUCK, GIVEN, FOES, THE HAT, the TICK as ahead of the last ..." */
    private static void ticksAndUndoLeave() {
        leavesAll(Scene.RICH, "tick and undo", x -> {
            x.tick(60);
            x.undo();
        });
        leavesAll(Scene.RICH, "hat and undo", x -> {
            x.hat(2);
            x.undo();
        });
        leavesAll(Scene.RICH, "push and undo", x -> {
            x.push(0, 23, 3);
            x.undo();
        });
        leavesAll(Scene.RICH, "all three and undo", x -> {
            x.push(0, 23, 3);
            x.tick(7);
            x.hat(-1);
            x.tick(1);
            for (int i = 0; i < 4; i++) {
                x.undo();
            }
        });
        BumperCars x = Scene.RICH.made();
        x.tick(1);
        x.note(0, 0, 0, 0, 0, 0, 0);
        x.bell(1, 5);
        x.type(' ');
        x.image(1);
        int notes = x.count(3);
        long below = x.part(1);
        x.undo();
        Check.due("undo: notes stay", x.count(3), notes);
        Check.due("undo: the fraction stays", x.part(1), below);
        Check.due("undo: the text stays", x.count(5), Scene.TEXT.length() + 1);
        Check.due("undo: the image stays", x.from(1), 1);
    }

    private static void notesLeave() {
        leavesAll(Scene.RICH, "forget and the same notes", x -> {
            Check.due("forget()", x.forget(), 2);
            x.note(1, 5, 2, 0, 1, -1, 1);
            x.note(0, 4, 1, 2, -1, 3, 3);
        });
    }

    /** BELL changes THE FRACTION alone. */
    private static void bellLeaves() {
        BumperCars x = Scene.RICH.made();
        long above = x.part(0);
        long below = x.part(1);
        x.undo();
        x.undo();
        x.bell(3, 4);
        Check.that("another fraction elsewhere", x.part(0) != above || x.part(1) != below);
        leavesAll(Scene.RICH, "bell of no ticks, and where it was told", y -> {
            y.bell(0, 0);
            y.push(2, 23, 1);
            y.undo();
            tellsRichBell(y);
        });
    }

    /** The bell of the rich scene was told ahead of its undo and its hat. */
    private static void tellsRichBell(BumperCars y) {
        y.undo();
        y.push(2, 20, 1);
        y.bell(3, 4);
        y.undo();
        y.hat(0);
    }

    private static void imageLeaves() {
        BumperCars x = Scene.RICH.made();
        x.image(1);
        same("image(1)", Scene.whole(x), Scene.whole(Scene.RICH.made()), 0, 1, 2, 4);
        BumperCars y = Scene.FULL.made();
        y.image(0);
        List<Long> whole = Scene.whole(y);
        same("image(0)", whole, Scene.whole(Scene.FULL.made()), 0, 1, 3, 4);
        Check.that("image(0) is what is now", seen(whole, 2).subList(1, 20).equals(seen(whole, 1)));
    }

    /** "IMAGES 0, 1 keep all but them, THE TEXT, THE FRACTION and STATUS; what may be undone they keep" */
    private static void fromLeaves() {
        BumperCars x = Scene.FULL.made();
        x.from(0);
        List<Long> whole = Scene.whole(x);
        same("from(0)", whole, Scene.whole(Scene.FULL.made()), 0, 2, 3, 4);
        Check.that("from(0) is what was", seen(whole, 2).subList(1, 20).equals(seen(whole, 1)));
        BumperCars y = Scene.FULL.made();
        y.from(1);
        whole = Scene.whole(y);
        same("from(1)", whole, Scene.whole(Scene.FULL.made()), 0, 2, 3, 4);
        Check.that("from(1) is what was", seen(whole, 3).subList(1, 20).equals(seen(whole, 1)));
    }

    /** What goes on behind an image, or from one, does not reach into it. */
    private static void imageIsApart() {
        List<Long> due = Scene.whole(Scene.FULL.made());
        for (int i = 0; i < 2; i++) {
            BumperCars x = Scene.FULL.made();
            x.from(i);
            goOn(x);
            same("going on from image " + i, Scene.whole(x), due, 0, 2, 3, 4);
            BumperCars y = Scene.FULL.made();
            y.image(i);
            goOn(y);
            Check.that("going on behind image " + i, seen(Scene.whole(y), 2 + i).subList(1, 20).equals(seen(due, 1)));
        }
    }

    private static void goOn(BumperCars x) {
        x.undo();
        x.tick(3);
        x.push(1, x.of(1, 1), 0);
        x.hat(3);
        for (int i = 0; i < 8; i++) {
            x.tick(2);
        }
        x.forget();
        for (int i = 0; i < 6; i++) {
            x.note(4 - i % 5, 90 + i, 3 - i % 4, 2, 3, 3, 3 - i % 4);
        }
    }
}
