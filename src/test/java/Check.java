import java.util.function.LongSupplier;

/** Counts what was checked, prints every answer that is not as due, and ends with 1 if there was one. */
final class Check {
    private static int checked = 0;
    private static int wrong = 0;

    private Check() {
    }

    static void due(String call, long got, long want) {
        checked++;
        if (got != want) {
            wrong++;
            System.out.println(call + " answered " + got + ", due is " + want);
        }
    }

    static void that(String what, boolean holds) {
        due(what, holds ? 1 : 0, 1);
    }

    /** A refused call: its answer, one counter of the status, and nothing else. */
    static void refused(BumperCars x, String call, LongSupplier made, long answer, int counter) {
        long before = x.digest();
        int[] status = {x.status(0), x.status(1), x.status(2)};
        due(call, made.getAsLong(), answer);
        due(call + ": digest", x.digest(), before);
        for (int i = 0; i < 3; i++) {
            due(call + ": status(" + i + ")", x.status(i), status[i] + (i == counter ? 1 : 0));
        }
    }

    /** An answered call that is no refusal and changes nothing. */
    static void asked(BumperCars x, String call, LongSupplier made, long answer) {
        refused(x, call, made, answer, -1);
    }

    static void type(BumperCars x, String text) {
        for (int i = 0; i < text.length(); i++) {
            x.type(text.charAt(i));
        }
    }

    static int read(BumperCars x, String text) {
        x.clear();
        type(x, text);
        return x.read();
    }

    static BumperCars floor(String text) {
        BumperCars x = new BumperCars();
        int items = read(x, text);
        if (items < 1) {
            throw new IllegalStateException("not read: " + text + ": " + items);
        }
        return x;
    }

    static void end() {
        System.out.println(checked + " answers, " + wrong + " not as due");
        System.exit(wrong == 0 && checked > 0 ? 0 : 1);
    }
}
