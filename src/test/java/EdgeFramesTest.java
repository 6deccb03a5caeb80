/** Terms 1 from the PIECE on: each sentence that names a boundary case of PIECES, FRAMES, TORN and the CHECK. */
public final class EdgeFramesTest {
    private static final String GOOD = Wire.claim(7, 100, 3);

    public static void main(String[] args) {
        shortPiece();
        threeHundred();
        longestPiece();
        lostFromThe301st();
        checked();
        tornOnce();
        lostWithThirty();
        aheadOfAnyMark();
        checkNumber();
        Due.finish();
    }

    private static void shortPiece() {
        Due.about("Terms 1", "A PIECE of less than 24 BITS is nothing.");
        ShipVoices x = new ShipVoices();
        Wire wire = new Wire(x);
        wire.hear(0, Wire.MARK.repeat(4));
        for (int bits = 0; bits < 24; bits++) {
            wire.hear(0, Wire.MARK + "01".repeat(12).substring(0, bits) + Wire.MARK);
        }
        Due.is("0 to 23 BITS are not TORN", x.count(4), 0);
        for (int bits = 0; bits < 8; bits++) {
            String message = "01101001".substring(0, bits);
            Due.is(bits + " BITS and their CHECK", wire.send(0, message), 0);
        }
        Due.is("nor are they TORN", x.count(4), 0);
        Due.is("nor read", x.count(1), 0);
        Due.is("24 BITS, the CHECK among them", wire.send(0, "01101001"), 1);
        Due.is("a MESSAGE of 8 BITS is STRANGE", x.message(0, 0), 0);
        wire.hear(0, Wire.MARK + "01".repeat(12) + Wire.MARK);
        Due.is("24 BITS without the CHECK are TORN", x.count(4), 1);
        wire.hear(0, Wire.MARK + "01".repeat(12) + "0" + Wire.MARK);
        Due.is("so are 25", x.count(4), 2);
    }

    /** 304 BITS, so that they end with a byte, of which so many are put: a 0 is left out 304 - put times. */
    private static String putting(int put, char last) {
        int leftOut = 304 - put;
        String stuffed = "111110".repeat(leftOut);
        return stuffed + "01".repeat(152).substring(0, 303 - stuffed.length()) + last;
    }

    private static void threeHundred() {
        Due.about("Terms 1", "What would have more than 300 BITS put is LOST from the 301st on, till the next MARK.");
        for (char last = '0'; last <= '1'; last++) {
            int[] due = {299, 300, -1, -1};
            for (int put = 299; put <= 302; put++) {
                ShipVoices x = new ShipVoices();
                Wire wire = new Wire(x);
                wire.hear(1, Wire.MARK + putting(put, last));
                Due.is(put + " BITS put, the last " + last, x.count(8), due[put - 299]);
                Due.is("TORN", x.count(4), put > 300 ? 1 : 0);
                Due.is("the other channel", x.count(7), -1);
            }
        }
        ShipVoices x = new ShipVoices();
        Wire wire = new Wire(x);
        String ends = "0" + "10".repeat(141) + "111110".repeat(3) + "011";
        Due.is("304 BITS", ends.length(), 304);
        wire.hear(0, Wire.MARK + ends.substring(0, 296));
        wire.hear(0, ends.substring(296));
        Due.is("the 301st is LOST, whichever tape it is on", x.count(7), -1);
        wire.hear(0, "0".repeat(800));
        Due.is("LOST still", x.count(7), -1);
        Due.is("TORN once", x.count(4), 1);
        wire.hear(0, Wire.MARK);
        Due.is("till the next MARK", x.count(7), 0);
        Due.is("which ends no PIECE", x.count(4), 1);
    }

    private static void longestPiece() {
        Due.about("Terms 1", "What would have more than 300 BITS put is LOST from the 301st on, till the next MARK.");
        ShipVoices x = new ShipVoices();
        Wire wire = new Wire(x);
        String longest = "0011".repeat(70).substring(0, 278);
        Due.is("294 BITS, and six of the MARK", wire.send(0, longest), 1);
        Due.is("STRANGE", x.message(0, 0), 0);
        Due.is("295 BITS, and six of the MARK", wire.send(0, longest + "0"), 0);
        Due.is("TORN once", x.count(4), 1);
        Due.is("294 BITS of which many are stuffed", wire.send(0, "1".repeat(278)), 1);
        Due.is("not TORN", x.count(4), 1);
        Due.is("293 BITS", wire.send(0, longest.substring(1)), 1);
        wire.hear(0, Wire.MARK + "01".repeat(147) + Wire.MARK);
        Due.is("294 BITS without the CHECK are TORN", x.count(4), 2);
        Due.is("read in all", x.count(1), 3);
    }

    private static void lostFromThe301st() {
        Due.about("Terms 1", "What would have more than 300 BITS put is LOST from the 301st on, till the next MARK.");
        ShipVoices x = new ShipVoices();
        Wire wire = new Wire(x);
        wire.hear(0, Wire.MARK + "0".repeat(301) + "1111111" + "0" + "1".repeat(70) + "0");
        Due.is("seven ONES while LOST tear nothing more", x.count(4), 1);
        wire.hear(0, Wire.MARK + Wire.body(GOOD) + Wire.MARK);
        Due.is("the next MARK begins anew", x.count(1), 1);
        wire.hear(0, Wire.MARK + "0".repeat(298) + "1111111");
        Due.is("the 301st among seven ONES: LOST once", x.count(4), 2);
        wire.hear(0, Wire.MARK + "0".repeat(295) + "1111110");
        Due.is("300 and the sixth ONE that is not put: a MARK", x.count(4), 3);
        Due.is("behind that MARK", x.count(7), (8 - (8 + 295 + 7) % 8) % 8);
        wire.hear(0, Wire.MARK + "0".repeat(296) + "1111110");
        Due.is("301 with the fifth ONE: LOST", x.count(4), 4);
        Due.is("but it is a MARK", x.count(7), (8 - (8 + 296 + 7) % 8) % 8);
    }

    private static void checked() {
        Due.about("Terms 1", "FRAME: a PIECE whose last 16 BITS are the CHECK of those ahead; any other PIECE is TORN;");
        String piece = GOOD + Wire.check(GOOD);
        ShipVoices x = new ShipVoices();
        Wire wire = new Wire(x);
        for (int k = 0; k < piece.length(); k++) {
            String turned = piece.substring(0, k) + (char) (97 - piece.charAt(k)) + piece.substring(k + 1);
            Due.is("BIT " + k + " turned", wire.hear(0, Wire.MARK + Wire.stuffed(turned) + Wire.MARK), 0);
        }
        Due.is("each is TORN", x.count(4), piece.length());
        Due.is("a BIT less", wire.hear(0, Wire.MARK + Wire.stuffed(piece.substring(1)) + Wire.MARK), 0);
        Due.is("a BIT more", wire.hear(0, Wire.MARK + Wire.stuffed(piece + "0") + Wire.MARK), 0);
        Due.is("are TORN", x.count(4), piece.length() + 2);
        Due.is("none is in the LOG", x.count(2), 0);
        Due.is("as it is", wire.hear(0, Wire.MARK + Wire.stuffed(piece) + Wire.MARK), 1);
        Due.is("not TORN", x.count(4), piece.length() + 2);
    }

    private static void tornOnce() {
        Due.about("Terms 1", "so is, each once, what is LOST with 30 BITS or more put.");
        ShipVoices x = new ShipVoices();
        Wire wire = new Wire(x);
        wire.hear(0, Wire.MARK + "0".repeat(33) + "1111111");
        Due.is("LOST", x.count(4), 1);
        wire.hear(0, "1".repeat(80));
        wire.hear(0, "0".repeat(80) + "11111110");
        Due.is("seven ONES again, still without a MARK", x.count(4), 1);
        wire.hear(0, Wire.MARK);
        Due.is("the MARK at last", x.count(4), 1);
        wire.hear(0, "0".repeat(33) + "1111111");
        Due.is("the next one that is LOST", x.count(4), 2);
        wire.hear(1, Wire.MARK + "0".repeat(33) + "1111111");
        Due.is("one on the other channel", x.count(4), 3);
        wire.hear(0, Wire.MARK);
        wire.hear(1, Wire.MARK);
        Due.is("each once", x.count(4), 3);
    }

    private static void lostWithThirty() {
        Due.about("Terms 1", "so is, each once, what is LOST with 30 BITS or more put.");
        int[][] due = {{0, 0}, {23, 0}, {24, 0}, {25, 1}, {26, 1}, {29, 1}, {30, 1}};
        for (int[] one : due) {
            ShipVoices x = new ShipVoices();
            Wire wire = new Wire(x);
            wire.hear(0, Wire.MARK + "0".repeat(one[0]) + "1111111");
            Due.is(one[0] + " BITS and five ONES put, then LOST", x.count(4), one[1]);
        }
        ShipVoices x = new ShipVoices();
        Wire wire = new Wire(x);
        wire.hear(0, Wire.MARK + "111110".repeat(4) + "0000" + "1111111");
        Due.is("BITS that are left out do not count: 29", x.count(4), 0);
        wire.hear(0, Wire.MARK + "111110".repeat(4) + "00000" + "1111111");
        Due.is("30", x.count(4), 1);
    }

    /** The document does not say it outright: nothing is put since a MARK that has not come yet. */
    private static void aheadOfAnyMark() {
        Due.about("Terms 1", "(none, if it was LOST, or at first ahead of any MARK)");
        ShipVoices x = new ShipVoices();
        Wire wire = new Wire(x);
        wire.hear(0, "0".repeat(57) + "1111111");
        Due.is("seven ONES ahead of any MARK", x.count(4), 0);
        wire.hear(1, "0".repeat(400));
        Due.is("more than 300 BITS ahead of any MARK", x.count(4), 0);
        Due.is("count(7)", x.count(7), -1);
        Due.is("count(8)", x.count(8), -1);
    }

    private static void checkNumber() {
        Due.about("Terms 1", "CHECK: a number of 16 bits, 65535 at first; for each BIT: doubled (16 bits of it), and, if its highest "
            + "bit was not that BIT, then exclusive or with 4129; at last each of its 16 bits is made the other one.");
        // The well-known row 1 to 9 with this CHECK, and three reckoned from the words alone.
        Object[][] known = {
            {"001100010011001000110011001101000011010100110110001101110011100000111001", 0xd64e},
            {"00000000", 0x1e0f}, {"11111111", 0x00ff}, {"0000000000000000", 0xe2f0},
        };
        for (Object[] one : known) {
            ShipVoices x = new ShipVoices();
            Wire wire = new Wire(x);
            int check = (Integer) one[1];
            String piece = one[0] + Wire.number(check, 16);
            Due.is("read with the CHECK " + check, wire.hear(0, Wire.MARK + Wire.stuffed(piece) + Wire.MARK), 1);
            piece = one[0] + Wire.number(check ^ 65535, 16);
            Due.is("not with the other one", wire.hear(0, Wire.MARK + Wire.stuffed(piece) + Wire.MARK), 0);
            Due.is("that is TORN", x.count(4), 1);
        }
    }
}
