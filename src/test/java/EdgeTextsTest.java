/** Terms 3, TEXTS, and promises 14 (texts), 15 (text), 16 (letter): each sentence that names a boundary case. */
public final class EdgeTextsTest {
    private static final int MOST = Integer.MAX_VALUE;
    private static final int LEAST = Integer.MIN_VALUE;

    public static void main(String[] args) {
        wholeInAnyOrder();
        oneShipRowAndMany();
        theLatest();
        usedUp();
        notUsedUpByOthers();
        inTheLogAlone();
        howMany();
        told();
        textNone();
        letters();
        letterNone();
        Due.finish();
    }

    private static int four(int letter) {
        return Wire.letters(letter, letter, letter, letter);
    }

    private static void wholeInAnyOrder() {
        Due.about("Terms 3", "TEXTS: when a PART comes to the LOG, and with it all WHICH 0 .. MANY - 1 of that SHIP, ROW and MANY are there "
            + "that are not used up: a TEXT,");
        int[][] orders = {{0, 1}, {1, 0}, {0, 1, 2}, {2, 1, 0}, {1, 2, 0}, {3, 0, 2, 1}, {0, 1, 2, 3, 4}, {4, 3, 2, 1, 0}, {2, 4, 0, 3, 1}};
        for (int[] order : orders) {
            ShipVoices x = new ShipVoices();
            Wire wire = new Wire(x);
            for (int k = 0; k < order.length; k++) {
                Due.is("not whole with " + k, x.texts(), 0);
                wire.send(k & 1, Wire.piece(7, 3, order[k], order.length, four(order[k] + 1)));
                x.wait(100000);
            }
            Due.is("whole with all " + order.length, x.texts(), 1);
            for (int i = 0; i < 4 * order.length; i++) {
                Due.is("letter(0, " + i + ")", x.letter(0, i), i / 4 + 1);
            }
            Due.is("with the last", x.text(0, 3), order.length - 1);
        }
        for (int lacking = 0; lacking < 5; lacking++) {
            ShipVoices x = new ShipVoices();
            Wire wire = new Wire(x);
            for (int which = 0; which < 5; which++) {
                wire.send(0, Wire.piece(7, 3, which == lacking ? (which + 1) % 5 : which, 5, 0));
            }
            Due.is("five, but without " + lacking, x.texts(), 0);
        }
    }

    private static void oneShipRowAndMany() {
        Due.about("Terms 3", "of that SHIP, ROW and MANY");
        ShipVoices x = new ShipVoices();
        Wire wire = new Wire(x);
        wire.sendAll(0, Wire.piece(7, 3, 0, 2, four(1)), Wire.piece(8, 3, 1, 2, four(2)), Wire.piece(7, 4, 1, 2, four(3)),
            Wire.piece(7, 3, 1, 3, four(4)), Wire.piece(7, 3, 2, 3, four(5)));
        Due.is("other SHIPS, ROWS, MANY", x.texts(), 0);
        wire.sendAll(0, Wire.claim(7, 3, 1), Wire.piece(7, 3, 1, 2, four(27)), Wire.piece(7, 3, 1, 2, four(6)) + "0");
        Due.is("other KINDS, STRANGE ones", x.texts(), 0);
        wire.send(1, Wire.piece(7, 3, 1, 2, four(6)));
        Due.is("its own", x.texts(), 1);
        Due.is("letter(0, 4)", x.letter(0, 4), 6);
        ShipVoices edges = new ShipVoices();
        new Wire(edges).sendAll(0, Wire.piece(0, 0, 0, 2, 0), Wire.piece(1048575, 7, 0, 2, 0), Wire.piece(0, 7, 1, 2, 0),
            Wire.piece(1048575, 0, 1, 2, 0), Wire.piece(1048575, 7, 1, 2, 0), Wire.piece(0, 0, 1, 2, 0));
        Due.is("SHIPS and ROWS at their ends", edges.texts(), 2);
        Due.is("the first one's SHIP", edges.text(0, 0), 1048575);
        Due.is("the second one's SHIP", edges.text(1, 0), 0);
    }

    private static void theLatest() {
        Due.about("Terms 3", "of each the latest one's LETTERS, in order;");
        ShipVoices x = new ShipVoices();
        new Wire(x).sendAll(0, Wire.piece(7, 3, 2, 3, four(1)), Wire.piece(7, 3, 0, 3, four(2)), Wire.piece(7, 3, 2, 3, four(3)),
            Wire.piece(7, 3, 0, 3, four(4)), Wire.piece(7, 3, 0, 3, four(5)), Wire.piece(7, 3, 1, 3, four(6)));
        Due.is("one TEXT", x.texts(), 1);
        int[] due = {5, 6, 3};
        for (int i = 0; i < 12; i++) {
            Due.is("letter(0, " + i + ")", x.letter(0, i), due[i / 4]);
        }
    }

    private static void usedUp() {
        Due.about("Terms 3", "all of that SHIP, ROW and MANY that are in the LOG are used up then.");
        ShipVoices x = new ShipVoices();
        Wire wire = new Wire(x);
        wire.sendAll(0, Wire.piece(7, 3, 1, 2, four(1)), Wire.piece(7, 3, 1, 2, four(2)), Wire.piece(7, 3, 0, 2, four(3)));
        Due.is("one", x.texts(), 1);
        wire.send(0, Wire.piece(7, 3, 0, 2, four(4)));
        Due.is("the older second half is used up, too", x.texts(), 1);
        wire.send(0, Wire.piece(7, 3, 0, 2, four(5)));
        Due.is("still", x.texts(), 1);
        wire.send(0, Wire.piece(7, 3, 1, 2, four(6)));
        Due.is("whole anew", x.texts(), 2);
        Due.is("letter(1, 0)", x.letter(1, 0), 5);
        Due.is("letter(1, 4)", x.letter(1, 4), 6);
        Due.is("the first TEXT stays: letter(0, 0)", x.letter(0, 0), 3);
        Due.is("the first TEXT stays: letter(0, 4)", x.letter(0, 4), 2);
        wire.send(0, Wire.piece(7, 3, 1, 2, four(7)));
        Due.is("used up again", x.texts(), 2);
    }

    private static void notUsedUpByOthers() {
        Due.about("Terms 3", "all of that SHIP, ROW and MANY that are in the LOG are used up then.");
        ShipVoices x = new ShipVoices();
        Wire wire = new Wire(x);
        wire.sendAll(0, Wire.piece(7, 3, 0, 3, four(1)), Wire.piece(7, 4, 0, 2, four(2)), Wire.piece(8, 3, 0, 2, four(3)),
            Wire.piece(7, 3, 1, 3, four(4)), Wire.piece(7, 3, 0, 2, four(5)), Wire.piece(7, 3, 1, 2, four(6)));
        Due.is("one", x.texts(), 1);
        wire.sendAll(0, Wire.piece(7, 3, 2, 3, four(7)), Wire.piece(7, 4, 1, 2, four(8)), Wire.piece(8, 3, 1, 2, four(9)));
        Due.is("those of other SHIPS, ROWS, MANY are still there", x.texts(), 4);
        int[][] due = {{5, 6}, {1, 4, 7}, {2, 8}, {3, 9}};
        for (int k = 0; k < 4; k++) {
            for (int i = 0; i < 4 * due[k].length; i++) {
                Due.is("letter(" + k + ", " + i + ")", x.letter(k, i), due[k][i / 4]);
            }
        }
    }

    private static void inTheLogAlone() {
        Due.about("Terms 3", "TEXTS: when a PART comes to the LOG,");
        ShipVoices x = new ShipVoices();
        Wire wire = new Wire(x);
        String[] fill = new String[199];
        for (int k = 0; k < 199; k++) {
            fill[k] = "01010101";
        }
        wire.sendAll(0, fill);
        wire.sendAll(0, Wire.piece(7, 3, 0, 2, 0), Wire.piece(7, 3, 1, 2, 0), Wire.piece(7, 3, 0, 2, 0));
        Due.is("the second half did not come to the LOG", x.texts(), 0);
        Due.is("though it was READ", x.count(1), 202);
    }

    private static void howMany() {
        Due.about("Promise 14", "How many TEXTS were joined.");
        ShipVoices x = new ShipVoices();
        Wire wire = new Wire(x);
        Due.is("of an empty LOG", x.texts(), 0);
        String[] all = new String[202];
        for (int k = 0; k < 202; k++) {
            all[k] = Wire.piece(7, 3, k % 2, 2, four(k % 27));
        }
        Due.is("all are READ", wire.sendAll(1, all), 202);
        Due.is("as many as the LOG can hold", x.texts(), 100);
        Due.is("the last was whole with the LOG's last", x.text(99, 3), 199);
        Due.is("letter(99, 0)", x.letter(99, 0), 198 % 27);
        Due.is("letter(99, 7)", x.letter(99, 7), 199 % 27);
        Due.none("text(100, 0)", () -> x.text(100, 0));
        Due.none("letter(100, 0)", () -> x.letter(100, 0));
    }

    private static void told() {
        Due.about("Promise 15", "Of TEXT k: 0 its SHIP, 1 its ROW, 2 how many LETTERS, 3 the number in the LOG of the PART with which it was whole.");
        ShipVoices x = new ShipVoices();
        new Wire(x).sendAll(0, "01010101", Wire.piece(1048575, 7, 0, 2, 0), Wire.base(1, 1), Wire.piece(1048575, 7, 1, 2, 0),
            Wire.piece(0, 0, 4, 5, four(1)), Wire.piece(0, 0, 3, 5, 0), Wire.piece(0, 0, 2, 5, 0), Wire.piece(0, 0, 1, 5, 0),
            Wire.piece(0, 0, 0, 5, 0), Wire.base(1, 1));
        int[][] due = {{1048575, 7, 8, 3}, {0, 0, 20, 8}};
        for (int k = 0; k < 2; k++) {
            for (int what = 0; what < 4; what++) {
                Due.is("text(" + k + ", " + what + ")", x.text(k, what), due[k][what]);
            }
        }
    }

    private static void textNone() {
        Due.about("Promise 15", "NoSuchElementException: there is none such, or another what.");
        ShipVoices x = new ShipVoices();
        Due.none("of none", () -> x.text(0, 0));
        Wire wire = new Wire(x);
        wire.send(0, Wire.piece(7, 3, 0, 2, 0));
        Due.none("of one that is not whole", () -> x.text(0, 0));
        wire.send(0, Wire.piece(7, 3, 1, 2, 0));
        int[] wild = {-1, 1, 2, 100, LEAST, MOST};
        for (int k : wild) {
            for (int what = 0; what < 4; what++) {
                int w = what;
                Due.none("text(" + k + ", " + w + ")", () -> x.text(k, w));
            }
        }
        int[] others = {-1, 4, 5, LEAST, MOST};
        for (int what : others) {
            Due.none("text(0, " + what + ")", () -> x.text(0, what));
        }
        Due.is("text(0, 3)", x.text(0, 3), 1);
    }

    private static void letters() {
        Due.about("Promise 16", "LETTER i of TEXT k (0 to 26).");
        ShipVoices x = new ShipVoices();
        new Wire(x).sendAll(0, Wire.piece(7, 3, 1, 2, Wire.letters(0, 26, 1, 25)), Wire.piece(7, 3, 0, 2, Wire.letters(26, 0, 13, 0)));
        int[] due = {26, 0, 13, 0, 0, 26, 1, 25};
        for (int i = 0; i < 8; i++) {
            Due.is("letter(0, " + i + ")", x.letter(0, i), due[i]);
        }
    }

    private static void letterNone() {
        Due.about("Promise 16", "NoSuchElementException: there is none such.");
        ShipVoices x = new ShipVoices();
        Due.none("of none", () -> x.letter(0, 0));
        Wire wire = new Wire(x);
        wire.send(0, Wire.piece(7, 3, 0, 2, 0));
        Due.none("of one that is not whole", () -> x.letter(0, 0));
        wire.send(0, Wire.piece(7, 3, 1, 2, 0));
        wire.sendAll(0, Wire.piece(7, 3, 0, 3, 0), Wire.piece(7, 3, 1, 3, 0), Wire.piece(7, 3, 2, 3, 0));
        int[] behind = {8, 12};
        for (int k = 0; k < 2; k++) {
            int text = k;
            int[] wild = {-1, behind[k], behind[k] + 1, 20, LEAST, MOST, -4};
            for (int i : wild) {
                Due.none("letter(" + text + ", " + i + ")", () -> x.letter(text, i));
            }
            Due.is("the last one", x.letter(k, behind[k] - 1), 0);
        }
        int[] texts = {-1, 2, 3, LEAST, MOST, 1 << 30, 858993460};
        for (int k : texts) {
            Due.none("letter(" + k + ", 0)", () -> x.letter(k, 0));
        }
    }
}
