/** Promises 14 (texts), 15 (text), 16 (letter). */
public final class TextTest {
    public static void main(String[] args) {
        joined();
        apart();
        longest();
        most();
        Due.finish();
    }

    private static int four(int letter) {
        return Wire.letters(letter, letter, letter, letter);
    }

    private static void joined() {
        ShipVoices x = new ShipVoices();
        Wire wire = new Wire(x);
        wire.send(0, Wire.piece(5, 3, 1, 2, four(9)), Wire.piece(5, 3, 1, 2, Wire.letters(1, 0, 26, 3)));
        Due.is("not whole", x.texts(), 0);
        wire.send(1, Wire.piece(5, 3, 0, 2, Wire.letters(4, 5, 6, 0)));
        Due.is("whole", x.texts(), 1);
        int[] letters = {4, 5, 6, 0, 1, 0, 26, 3};
        for (int i = 0; i < 8; i++) {
            Due.is("letter(0, " + i + ")", x.letter(0, i), letters[i]);
        }
        int[] told = {5, 3, 8, 2};
        for (int what = 0; what < 4; what++) {
            Due.is("text(0, " + what + ")", x.text(0, what), told[what]);
        }
        Due.none("text(0, 4)", () -> x.text(0, 4));
        Due.none("text(0, -1)", () -> x.text(0, -1));
        Due.none("text(1, 0)", () -> x.text(1, 0));
        Due.none("text(-1, 0)", () -> x.text(-1, 0));
        Due.none("letter(0, 8)", () -> x.letter(0, 8));
        Due.none("letter(0, -1)", () -> x.letter(0, -1));
        Due.none("letter(1, 0)", () -> x.letter(1, 0));
        Due.none("letter(-1, 0)", () -> x.letter(-1, 0));
        wire.send(0, Wire.piece(5, 3, 0, 2, four(7)));
        Due.is("all were used up, the older one too", x.texts(), 1);
        wire.send(0, Wire.piece(5, 3, 0, 2, four(8)), Wire.piece(5, 3, 1, 2, four(9)));
        Due.is("whole again", x.texts(), 2);
        Due.is("of each the latest", x.letter(1, 0), 8);
        Due.is("letter(1, 4)", x.letter(1, 4), 9);
        Due.is("letter(0, 0) stays", x.letter(0, 0), 4);
        Due.is("text(1, 3)", x.text(1, 3), 5);
    }

    private static void apart() {
        ShipVoices x = new ShipVoices();
        Wire wire = new Wire(x);
        wire.send(0, Wire.piece(5, 3, 0, 2, four(1)), Wire.piece(6, 3, 1, 2, four(2)));
        wire.send(0, Wire.piece(5, 2, 1, 2, four(3)), Wire.piece(5, 3, 1, 3, four(4)));
        Due.is("other ship, row, many", x.texts(), 0);
        wire.send(0, Wire.piece(5, 3, 2, 3, four(5)));
        x.wait(100000);
        wire.send(1, Wire.piece(5, 3, 1, 2, four(6)));
        Due.is("of two", x.texts(), 1);
        Due.is("letter(0, 4)", x.letter(0, 4), 6);
        wire.send(1, Wire.piece(5, 3, 0, 3, four(7)));
        Due.is("of three, not used up by the other", x.texts(), 2);
        int[] letters = {7, 4, 5};
        for (int i = 0; i < 12; i++) {
            Due.is("letter(1, " + i + ")", x.letter(1, i), letters[i / 4]);
        }
        Due.is("text(1, 2)", x.text(1, 2), 12);
    }

    private static void longest() {
        ShipVoices x = new ShipVoices();
        Wire wire = new Wire(x);
        for (int which = 4; which >= 0; which--) {
            Due.is("not yet", x.texts(), 0);
            wire.send(0, Wire.piece(1048575, 7, which, 5, Wire.letters(which, 26 - which, 0, 20 + which)));
        }
        Due.is("whole", x.texts(), 1);
        Due.is("text(0, 2)", x.text(0, 2), 20);
        for (int which = 0; which < 5; which++) {
            int[] letters = {which, 26 - which, 0, 20 + which};
            for (int i = 0; i < 4; i++) {
                Due.is("letter " + i + " of " + which, x.letter(0, 4 * which + i), letters[i]);
            }
        }
        Due.none("letter(0, 20)", () -> x.letter(0, 20));
    }

    private static void most() {
        ShipVoices x = new ShipVoices();
        Wire wire = new Wire(x);
        String both = Wire.frame(Wire.piece(1, 0, 0, 2, 0)) + Wire.frame(Wire.piece(1, 0, 1, 2, four(26)));
        for (int k = 0; k < 101; k++) {
            wire.hear(0, both);
        }
        Due.is("as many as the log holds", x.texts(), 100);
        Due.is("the last", x.text(99, 3), 199);
        Due.is("its last letter", x.letter(99, 7), 26);
        Due.none("text(100, 0)", () -> x.text(100, 0));
    }
}
