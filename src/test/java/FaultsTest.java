/** THE TEXT: each way in which it can have a FAULT, its place, and what stands just inside. */
public final class FaultsTest {
    private static final String FIVE = "floor;car 0 0 0;car 1 1 1;car 2 2 2;car 3 3 3;car 4 4 0;";

    public static void main(String[] args) {
        wholeTexts();
        endsTooEarly();
        everyBeginning();
        wordThatIsNone();
        floorAgain();
        aheadOfFloor();
        sixthCar();
        threeFigures();
        twoFigures();
        kindNotAsTold();
        cellNotAsTold();
        wayNotAsTold();
        cellWithACar();
        carNotThereYet();
        twoAlike();
        everyByteBetweenItems();
        everyByteBehindFloor();
        everyByteBehindAWord();
        everyByteInPlaceOfANumber();
        everyByteInPlaceOfAnEnd();
        tooManyAndTooFew();
        blanks();
        firstOfTwoFaults();
        fullText();
        toldAgain();
        faultLeavesAll();
        Check.end();
    }

    /** Read into a rich object; with a FAULT all that it has must stay. */
    private static void fault(String text, int place) {
        Scene.refused(() -> typed(text), "read of '" + text + "'", x -> x.read(), -10 - place, -1);
    }

    private static BumperCars typed(String text) {
        BumperCars x = Scene.RICH.made();
        x.clear();
        Check.type(x, text);
        return x;
    }

    private static BumperCars reads(String text, int items) {
        BumperCars x = typed(text);
        Check.due("read of '" + text + "'", x.read(), items);
        Check.due("the text stays", x.count(5), text.length());
        return x;
    }

    /** "ITEMS, each ended by ; : floor (once, first of all)" */
    private static void wholeTexts() {
        Check.due("no cars", reads("floor;", 1).count(0), 0);
        BumperCars x = reads("floor;car 5 23 3;car 0 0 0;hat 1;foe 0 1;", 5);
        int[][] due = {{5, 23, 3, 0, 0, 1}, {0, 0, 0, 0, 0, -1}};
        for (int k = 0; k < 2; k++) {
            for (int what = 0; what < 6; what++) {
                Check.due("of(" + k + ", " + what + ")", x.of(k, what), due[k][what]);
            }
        }
        Check.due("the hat", x.hat(-1), 1);
        Check.due("five cars", reads(FIVE, 6).count(0), 5);
    }

    /** "the TEXT's length, if it ends too early (an empty one, too)" */
    private static void endsTooEarly() {
        for (String text : new String[] {"", " ", "   ", "floor", "floor ", "floor;car", "floor;car ", "floor;car 0",
            "floor;car 0 ", "floor;car 0 1", "floor;car 0 1 ", "floor;car 0 1 2", "floor;car 0 1 2  ",
            "floor;car 0 1 2;hat", "floor;car 0 1 2;hat ", "floor;car 0 1 2;hat 0", "floor;car 0 1 2;hat 0 ",
            "floor;hat", "floor;foe", "floor;car 0 1 2;foe", "floor;car 0 1 2;foe ", "floor;car 0 1 2;foe 0",
            "floor;car 0 1 2;foe 0 ", "floor;car 0 1 2;car 0 2 2;foe 0 1", "floor;car 0 1 2;car 0 2 2;foe 0 1 "}) {
            fault(text, text.length());
        }
    }

    /** A text cut at each place: within a word it is the word that can not stand. */
    private static void everyBeginning() {
        String text = "floor;car 3 23 3;car 0 0 0;hat 1;foe 0 1;";
        int begins = 0;
        int items = 0;
        for (int end = 1; end <= text.length(); end++) {
            String cut = text.substring(0, end);
            boolean letter = Character.isLetter(cut.charAt(end - 1));
            begins = letter ? begins : end;
            if (cut.endsWith(";")) {
                items++;
                reads(cut, items);
            } else {
                fault(cut, letter && Character.isLetter(text.charAt(end)) ? begins : end);
            }
        }
    }

    /** "a word that is none" */
    private static void wordThatIsNone() {
        for (String word : new String[] {"a", "z", "f", "floo", "floors", "loor", "flour", "roolf", "fl", "afloor"}) {
            fault(word + ";", 0);
            fault("  " + word + ";", 2);
        }
        for (String word : new String[] {"a", "c", "ca", "cars", "carz", "cat", "bar", "acar", "h", "ha", "hats", "hut",
            "that", "f", "fo", "foes", "fod", "eof", "carcar", "hatfoe", "x"}) {
            fault("floor;" + word + " 0 0 0;", 6);
            fault("floor;" + word, 6);
            fault("floor;car 0 1 2; " + word + ";", 17);
        }
    }

    /** "floor again" */
    private static void floorAgain() {
        fault("floor;floor;", 6);
        fault("floor; floor;", 7);
        fault("floor;floor", 6);
        fault("floor;car 0 1 2;floor;", 16);
        fault("floor floor;", 6);
        fault("floorfloor;", 0);
    }

    /** "anything ahead of it" */
    private static void aheadOfFloor() {
        fault("car 0 1 2;floor;", 0);
        fault("car", 0);
        fault("hat 0;floor;", 0);
        fault("foe 0 1;floor;", 0);
        fault(";floor;", 0);
        fault(" ;floor;", 1);
        fault("0 floor;", 0);
        fault("10floor;", 0);
        fault("100 floor;", 0);
        fault("-floor;", 0);
        fault("  .floor;", 2);
        reads("  floor;", 1);
    }

    /** "a 6th car at its word" */
    private static void sixthCar() {
        fault(FIVE + "car 5 5 0;", 56);
        fault(FIVE + "car", 56);
        fault(FIVE + "car;", 56);
        fault(FIVE + "  car 9 99 9;", 58);
        fault(FIVE + "hat 4;car 5 5 0;", 62);
        fault(FIVE + "cars", 56);
        reads(FIVE + "hat 4;foe 4 0;", 8);
    }

    /** "a run of three figures or more (at its first one)" */
    private static void threeFigures() {
        for (String run : new String[] {"000", "001", "010", "100", "0000", "1234567890", "999"}) {
            fault("floor;car " + run + " 0 0;", 10);
            fault("floor;car 0 " + run + " 0;", 12);
            fault("floor;car 0 0 " + run + ";", 14);
            fault("floor;car 0 0 0;hat " + run + ";", 20);
            fault("floor;car 0 0 0;foe " + run + " 0;", 20);
            fault("floor;car 0 0 0;foe 0 " + run + ";", 22);
            fault("floor;" + run + ";", 6);
            fault("floor " + run + ";", 6);
            fault("floor;car 0 0 0 " + run + ";", 16);
            fault("floor;car 0 0 0" + "  ;" + run, 18);
            fault("floor;car" + run, 9);
            fault(run, 0);
        }
    }

    /** "(1 or 2 are one number)" */
    private static void twoFigures() {
        BumperCars x = reads("floor;car 05 09 03;car 00 23 00;hat 01;foe 00 01;", 5);
        Check.due("05", x.of(0, 0), 5);
        Check.due("09", x.of(0, 1), 9);
        Check.due("03", x.of(0, 2), 3);
        Check.due("foe 00 01", x.of(0, 5), 1);
        Check.due("hat 01", x.hat(-1), 1);
        for (int cell = 0; cell < 24; cell++) {
            Check.due("car in " + cell, reads("floor;car 1 " + cell + " 2;", 2).at(cell), 0);
        }
    }

    /** "a number not as told": KINDS 0 .. 5 */
    private static void kindNotAsTold() {
        for (int kind = 0; kind <= 5; kind++) {
            Check.due("kind", reads("floor;car " + kind + " 7 0;", 2).of(0, 0), kind);
        }
        for (String wrong : new String[] {"6", "7", "9", "06", "10", "15", "50", "99"}) {
            fault("floor;car " + wrong + " 7 0;", 10);
            fault("floor;car " + wrong, 10);
        }
    }

    /** CELLS 0 .. 23 */
    private static void cellNotAsTold() {
        for (String wrong : new String[] {"24", "25", "30", "42", "99"}) {
            fault("floor;car 0 " + wrong + " 0;", 12);
            fault("floor;car 0 " + wrong, 12);
        }
    }

    /** WAYS 0 .. 3 */
    private static void wayNotAsTold() {
        for (int way = 0; way <= 3; way++) {
            Check.due("way", reads("floor;car 0 7 " + way + ";", 2).of(0, 2), way);
        }
        for (String wrong : new String[] {"4", "5", "9", "04", "10", "13", "30", "99"}) {
            fault("floor;car 0 7 " + wrong + ";", 14);
            fault("floor;car 0 7 " + wrong, 14);
        }
    }

    /** "also a CELL with a CAR": one of the text, not one that is on the floor now. */
    private static void cellWithACar() {
        fault("floor;car 0 7 0;car 0 7 0;", 22);
        fault("floor;car 0 7 0;car 0 07 0;", 22);
        fault("floor;car 0 7 0;car 0 7", 22);
        fault("floor;car 0 7 0;car 0 8 0;car 0 7 0;", 32);
        fault("floor;car 0 23 0;car 0 23 0;", 23);
        BumperCars x = typed("");
        Check.type(x, "floor;car 0 " + x.of(0, 1) + " 0;");
        Check.due("where a car is now", x.read(), 2);
    }

    /** "a CAR that is not there yet": one that comes later does not help. */
    private static void carNotThereYet() {
        fault("floor;hat 0;", 10);
        fault("floor;hat 0;car 0 7 0;", 10);
        fault("floor;car 0 7 0;hat 1;", 20);
        fault("floor;car 0 7 0;hat 1;car 0 8 0;", 20);
        fault("floor;foe 0 1;", 10);
        fault("floor;foe 0 1;car 0 7 0;car 0 8 0;", 10);
        fault("floor;car 0 7 0;foe 1 0;", 20);
        fault("floor;car 0 7 0;foe 0 1;", 22);
        fault("floor;car 0 7 0;foe 0 1;car 0 8 0;", 22);
        fault("floor;car 0 7 0;car 0 8 0;foe 2 0;", 30);
        fault("floor;car 0 7 0;car 0 8 0;foe 1 2;", 32);
        fault(FIVE + "hat 5;", 60);
        fault(FIVE + "foe 5 0;", 60);
        fault(FIVE + "foe 0 5;", 62);
        for (int k = 0; k < 5; k++) {
            Check.due("hat " + k, reads(FIVE + "hat " + k + ";", 7).hat(-1), k);
            int q = (k + 1) % 5;
            Check.due("foe " + k + " " + q, reads(FIVE + "foe " + k + " " + q + ";", 7).of(k, 5), q);
        }
    }

    /** "foe k q (unlike)", "two alike" */
    private static void twoAlike() {
        fault("floor;car 0 7 0;foe 0 0;", 22);
        fault("floor;car 0 7 0;foe 0 00;", 22);
        fault("floor;car 0 7 0;foe 0 0", 22);
        for (int k = 0; k < 5; k++) {
            fault(FIVE + "foe " + k + " " + k + ";", 62);
        }
    }

    /** "a byte that begins none": all but a blank can not begin an item. */
    private static void everyByteBetweenItems() {
        for (int c = 0; c < 128; c++) {
            if (c == ' ') {
                reads("floor;" + (char) c, 1);
                reads("floor;car 0 1 2;" + (char) c, 2);
            } else {
                fault("floor;" + (char) c, 6);
                fault("floor;car 0 1 2;" + (char) c, 16);
            }
        }
    }

    private static void everyByteBehindFloor() {
        for (int c = 0; c < 128; c++) {
            if (c == ';') {
                reads("floor" + (char) c, 1);
            } else {
                fault("floor" + (char) c, c == ' ' ? 6 : c >= 'a' && c <= 'z' ? 0 : 5);
            }
        }
    }

    private static void everyByteBehindAWord() {
        for (int c = 0; c < 128; c++) {
            boolean letter = c >= 'a' && c <= 'z';
            boolean kind = c >= '0' && c <= '5';
            fault("floor;car" + (char) c, c == ' ' || kind ? 10 : letter ? 6 : 9);
        }
    }

    private static void everyByteInPlaceOfANumber() {
        for (int c = 0; c < 128; c++) {
            if (c >= '0' && c <= '9') {
                Check.due("the cell", reads("floor;car 0 " + (char) c + " 3;", 2).at(c - '0'), 0);
            } else {
                fault("floor;car 0 " + (char) c + " 3;", c == ' ' ? 15 : 12);
            }
        }
    }

    private static void everyByteInPlaceOfAnEnd() {
        for (int c = 0; c < 128; c++) {
            if (c == ';') {
                reads("floor;car 0 1 2" + (char) c, 2);
            } else {
                fault("floor;car 0 1 2" + (char) c, c == ' ' ? 16 : c >= '0' && c <= '9' ? 14 : 15);
            }
        }
    }

    private static void tooManyAndTooFew() {
        fault("floor 0;", 6);
        fault("floor;;", 6);
        fault("floor;car;", 9);
        fault("floor;car 0;", 11);
        fault("floor;car 0 1;", 13);
        fault("floor;car 0 1 2 3;", 16);
        fault("floor;car 0 1 2;;", 16);
        fault("floor;car car 0 1 2;", 10);
        fault("floor;car 0 1 2 car", 16);
        fault("floor;car 0 1 2;hat;", 19);
        fault("floor;car 0 1 2;hat 0 0;", 22);
        fault("floor;car 0 1 2;foe;", 19);
        fault("floor;car 0 1 2;foe 0;", 21);
        fault(FIVE + "foe 0 1 2;", 64);
        fault("floor;0 1 2;", 6);
    }

    /** "blanks (32) between": as many as one likes, and none where tokens part without; never within one. */
    private static void blanks() {
        BumperCars x = reads("  floor  ;  car  3  7  2  ;  car  1  8  0  ;  hat  1  ;  foe  0  1  ;  ", 5);
        BumperCars y = reads("floor;car3 7 2;car1 8 0;hat1;foe0 1;", 5);
        for (int what = 0; what < 6; what++) {
            Check.due("the same by blanks", x.of(0, what), y.of(0, what));
        }
        Check.due("the cell", x.of(0, 1), 7);
        Check.due("the foe", y.of(0, 5), 1);
        fault("flo or;", 0);
        fault("floor;ca r 0 1 2;", 6);
        fault("floor;car 0 2 3 0;", 16);
        fault("floor;car 0 12 3 0;", 17);
        fault("floor;car 0 1 2;hat 0 1;", 22);
        fault("floor\t;", 5);
        fault("floor\n;", 5);
        fault("floor;car\t0 1 2;", 9);
        fault("floor;car 0\r1 2;", 11);
        fault("floor;car 0 1_2;", 13);
    }

    private static void firstOfTwoFaults() {
        fault("floor;car 6 24 4;", 10);
        fault("floor;car 5 24 4;", 12);
        fault("floor;car 5 23 4;", 15);
        fault("floor;car 5 23 3 ;floor;x", 18);
        fault("floor;car 0 1 2;foe 1 1;", 20);
        fault("x;y;", 0);
        fault("floor;hat 7;hat 8", 10);
    }

    /** A full text: its last byte still counts, and its length is 150. */
    private static void fullText() {
        String blanks = " ".repeat(150);
        fault(blanks, 150);
        reads(blanks.substring(6) + "floor;", 1);
        fault(blanks.substring(5) + "floor", 150);
        fault(blanks.substring(4) + "floo", 146);
        fault("floor;" + blanks.substring(7) + "x", 149);
        fault("floor;" + blanks.substring(7) + ";", 149);
        StringBuilder hats = new StringBuilder("floor;car 0 7 0;");
        while (hats.length() + 5 <= 150) {
            hats.append("hat0;");
        }
        reads(hats.toString(), 2 + (150 - 16) / 5);
    }

    /** hat and foe may be told again: the last one counts. */
    private static void toldAgain() {
        Check.due("hat again", reads("floor;car 0 7 0;hat 0;car 0 8 0;hat 1;hat 0;", 6).hat(-1), 0);
        Check.due("foe again", reads(FIVE + "foe 0 1;foe 0 4;", 8).of(0, 5), 4);
        Check.due("no foe", reads(FIVE + "foe 0 1;", 7).of(1, 5), -1);
        Check.due("no hat", reads(FIVE, 6).hat(-1), -1);
    }

    /** "-10 less the FAULT: all stays.": the text, too, and nothing is counted; a longer text may then be read. */
    private static void faultLeavesAll() {
        BumperCars x = typed("floor;car 0 7");
        Check.due("read()", x.read(), -23);
        Check.due("read() again", x.read(), -23);
        Check.type(x, " 1;");
        Check.due("read() of more", x.read(), 2);
        Check.due("read() of the same", x.read(), 2);
        Check.due("one car", x.count(0), 1);
    }
}
