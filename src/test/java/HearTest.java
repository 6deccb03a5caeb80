/** Promises 4 (hear), 8 (message) and 20 (count): how levels become bits, pieces, frames, messages. */
public final class HearTest {
    private static final String GOOD = Wire.claim(7, 100, 3);

    public static void main(String[] args) {
        channels();
        marks();
        stuffing();
        lost();
        aheadOfMarks();
        tooLong();
        shortPieces();
        torn();
        strangeOnes();
        numbers();
        fullLog();
        Due.finish();
    }

    private static void channels() {
        ShipVoices x = new ShipVoices();
        x.feed(0x55555555, 1, 2, 3, 4);
        Due.is("hear(2)", x.hear(2), -1);
        Due.is("hear(-1)", x.hear(-1), -1);
        Due.is("tape stays", x.count(5), 20);
        Due.is("hear(1)", x.hear(1), 0);
        Due.is("tape is empty", x.count(5), 0);
        Due.is("hear(0) of nothing", x.hear(0), 0);
        ShipVoices z = new ShipVoices();
        Wire wire = new Wire(z);
        String frame = Wire.frame(GOOD);
        Due.is("first half on 0", wire.hear(0, frame.substring(0, 32)), 0);
        Due.is("bits put on 0", z.count(7), 24);
        Due.is("first half on 1", wire.hear(1, frame.substring(0, 40)), 0);
        Due.is("bits put on 1", z.count(8), 32);
        Due.is("second half on 1", wire.hear(1, frame.substring(40)), 1);
        Due.is("channel told", z.message(0, 2), 1);
        z.wait(9);
        Due.is("second half on 0", wire.hear(0, frame.substring(32)), 1);
        Due.is("channel told", z.message(1, 2), 0);
        Due.is("second told", z.message(1, 3), 9);
        Due.is("torn", z.count(4), 0);
    }

    private static void marks() {
        ShipVoices x = new ShipVoices();
        Wire wire = new Wire(x);
        String body = Wire.stuffed(GOOD + Wire.check(GOOD));
        String shared = Wire.MARK + body + Wire.MARK + body + Wire.MARK;
        Due.is("one mark between two frames", wire.hear(0, shared), 2);
        // The 0 that ends a mark may not begin the next: the frame's last bit would be cut.
        Due.is("marks with one 0 between", wire.hear(0, Wire.MARK + Wire.MARK.substring(1) + body + Wire.MARK), 1);
        Due.is("many marks", wire.hear(0, Wire.MARK.repeat(5) + body + Wire.MARK.repeat(3)), 1);
        Due.is("bits put behind a mark", x.count(7), fill(8 * 8 + body.length()));
        Due.is("torn", x.count(4), 0);
        ShipVoices z = new ShipVoices();
        Wire other = new Wire(z);
        Due.is("no mark ahead", other.hear(0, "0" + body + Wire.MARK), 0);
        Due.is("nothing torn", z.count(4), 0);
        Due.is("bits put", z.count(7), fill(1 + body.length() + 8));
        Due.is("then a frame", other.hear(0, Wire.MARK + body + Wire.MARK), 1);
    }

    /** How many bits 0 a wire adds to come to a whole byte. */
    private static int fill(int bits) {
        return (8 - bits % 8) % 8;
    }

    private static void stuffing() {
        ShipVoices x = new ShipVoices();
        Wire wire = new Wire(x);
        wire.hear(0, Wire.MARK + "11111");
        Due.is("five ones, then 0, 0, 0 of which one is left out", x.count(7), 7);
        wire.hear(0, "11111");
        Due.is("five more, one 0 left out again", x.count(7), 14);
        ShipVoices z = new ShipVoices();
        Wire other = new Wire(z);
        other.hear(0, Wire.MARK + "01111101" + "01010111");
        Due.is("a 0 behind five left out", z.count(7), 15);
        other.hear(0, "11101010");
        Due.is("six ones over two tapes end a mark", z.count(7), 4);
        Due.is("all ones", wire.send(1, Wire.position(1048575, -1, -1, -1, -1)), 1);
        Due.is("x", x.message(0, 4), -1);
    }

    private static void lost() {
        ShipVoices x = new ShipVoices();
        Wire wire = new Wire(x);
        // 24 bits, then 0 and five ones put: 30 in all; the 6th one is not, the 7th ends it.
        wire.hear(0, Wire.MARK + "01".repeat(12) + "01111110".substring(0, 7) + "1");
        Due.is("lost", x.count(7), -1);
        Due.is("lost with 30 is torn", x.count(4), 1);
        wire.hear(0, "1".repeat(64) + "0".repeat(8));
        Due.is("torn once", x.count(4), 1);
        Due.is("still lost", x.count(7), -1);
        wire.hear(0, Wire.MARK);
        Due.is("a mark ends it", x.count(7), 0);
        wire.hear(0, "01".repeat(12) + "01111111".substring(1) + "0");
        Due.is("lost with 29", x.count(4), 1);
        Due.is("lost again", x.count(7), -1);
        Due.is("a frame behind", wire.send(0, GOOD), 1);
        Due.is("no piece of what was lost", x.count(4), 1);
        wire.hear(0, "01111111" + "0" + "0111111");
        Due.is("0 behind seven is nothing, put is nothing", x.count(7), -1);
        wire.hear(1, Wire.MARK + "0".repeat(24) + "1".repeat(8));
        Due.is("channel 1 is lost by itself", x.count(8), -1);
        Due.is("torn of both channels", x.count(4), 1);
        wire.hear(1, Wire.MARK + "0".repeat(25) + "1".repeat(7));
        Due.is("torn of both channels", x.count(4), 2);
    }

    private static void aheadOfMarks() {
        ShipVoices x = new ShipVoices();
        Wire wire = new Wire(x);
        wire.hear(0, "01".repeat(40) + "01111111");
        Due.is("nothing is put ahead of any mark", x.count(4), 0);
        Due.is("bits put", x.count(7), -1);
        wire.hear(1, "01".repeat(400));
        Due.is("nor is it too long", x.count(4), 0);
        Due.is("bits put", x.count(8), -1);
    }

    private static void tooLong() {
        ShipVoices x = new ShipVoices();
        Wire wire = new Wire(x);
        String longest = "01".repeat(139);
        String piece = longest + Wire.check(longest);
        Due.is("a piece of 294 bits", wire.hear(0, Wire.MARK + Wire.stuffed(piece) + Wire.MARK), 1);
        Due.is("it is strange", x.message(0, 0), 0);
        String longer = "1" + longest;
        piece = longer + Wire.check(longer);
        Due.is("a piece of 295 bits", wire.hear(0, Wire.MARK + Wire.stuffed(piece) + Wire.MARK), 0);
        Due.is("it is torn", x.count(4), 1);
        wire.hear(1, Wire.MARK + "01".repeat(150) + "0000");
        Due.is("lost from the 301st on", x.count(8), -1);
        Due.is("torn at once", x.count(4), 2);
        wire.hear(1, "01111111");
        wire.hear(1, Wire.MARK);
        Due.is("torn but once", x.count(4), 2);
        wire.hear(1, "0".repeat(296));
        Due.is("296 put", x.count(8), 296);
        wire.hear(1, "10101111");
        Due.is("the 301st of them loses", x.count(8), -1);
        wire.hear(1, Wire.MARK + "0".repeat(280) + "111110".repeat(4));
        Due.is("300 put, a 0 left out behind them", x.count(8), 300);
        Due.is("not torn", x.count(4), 3);
        wire.hear(1, "00000000");
        Due.is("the 301st", x.count(8), -1);
        Due.is("torn", x.count(4), 4);
    }

    private static void shortPieces() {
        ShipVoices x = new ShipVoices();
        Wire wire = new Wire(x);
        for (int bits = 0; bits < 8; bits++) {
            String message = "10110010".substring(0, bits);
            Due.is("a frame of " + bits, wire.send(0, message), 0);
        }
        Due.is("pieces of less than 24 are nothing", x.count(4), 0);
        Due.is("a frame of 8", wire.send(0, "10110010"), 1);
        Due.is("is strange", x.count(3), 1);
        wire.hear(0, Wire.MARK + "0".repeat(23) + Wire.MARK);
        Due.is("23 bits without check", x.count(4), 0);
        wire.hear(0, Wire.MARK + "0".repeat(24) + Wire.MARK);
        Due.is("24 bits without check", x.count(4), 1);
    }

    private static void torn() {
        String body = GOOD + Wire.check(GOOD);
        ShipVoices x = new ShipVoices();
        Wire wire = new Wire(x);
        for (int k = 0; k < body.length(); k++) {
            String turned = body.substring(0, k) + (body.charAt(k) == '0' ? '1' : '0') + body.substring(k + 1);
            Due.is("bit " + k + " turned", wire.hear(0, Wire.MARK + Wire.stuffed(turned) + Wire.MARK), 0);
            Due.is("torn", x.count(4), k + 1);
        }
        Due.is("none read", x.count(1), 0);
    }

    private static void strangeOnes() {
        String[] strange = {
            Wire.number(0, 4) + GOOD.substring(4),
            Wire.number(6, 4) + GOOD.substring(4),
            Wire.number(15, 4) + GOOD.substring(4),
            GOOD + "0",
            GOOD.substring(0, 38),
            GOOD.substring(0, 23),
            GOOD.substring(0, 24),
            Wire.claim(7, 2250, 1),
            Wire.claim(7, 0, 0),
            Wire.position(7, 1, 2, 3, 4) + "1",
            Wire.position(7, 1, 2, 3, 4).substring(0, 71),
            Wire.base(7, 1) + "1",
            Wire.base(7, 1).substring(0, 54),
            Wire.fixed(7, Wire.letters(27, 0, 0), 0, 1),
            Wire.fixed(7, Wire.letters(0, 27, 0), 0, 1),
            Wire.fixed(7, Wire.letters(0, 0, 31), 0, 1),
            Wire.fixed(7, 0, Wire.letters(27, 0, 0), 1),
            Wire.fixed(7, 0, Wire.letters(0, 27, 0), 1),
            Wire.fixed(7, 0, Wire.letters(0, 0, 27), 1),
            Wire.fixed(7, 0, 0, 1) + "0",
            Wire.piece(7, 0, 0, 1, 0),
            Wire.piece(7, 0, 0, 0, 0),
            Wire.piece(7, 0, 0, 6, 0),
            Wire.piece(7, 0, 2, 2, 0),
            Wire.piece(7, 0, 5, 5, 0),
            Wire.piece(7, 0, 0, 2, Wire.letters(27, 0, 0, 0)),
            Wire.piece(7, 0, 0, 2, Wire.letters(0, 27, 0, 0)),
            Wire.piece(7, 0, 0, 2, Wire.letters(0, 0, 27, 0)),
            Wire.piece(7, 0, 0, 2, Wire.letters(0, 0, 0, 27)),
            Wire.piece(7, 0, 0, 2, 0).substring(0, 52),
        };
        ShipVoices x = new ShipVoices();
        Wire wire = new Wire(x);
        x.wait(5);
        for (int k = 0; k < strange.length; k++) {
            Due.is("strange " + k + " is read", wire.send(1, strange[k]), 1);
            int[] row = {0, -1, 1, 5, -1, -1, -1, -1};
            for (int what = 0; what < 8; what++) {
                Due.is("message(" + k + ", " + what + ")", x.message(k, what), row[what]);
            }
        }
        Due.is("strange ones", x.count(3), strange.length);
        Due.is("read", x.count(1), strange.length);
        Due.is("in the log", x.count(2), strange.length);
        Due.is("part(-1)", x.part(-1, 1), -1);
        Due.is("size(-1)", x.size(-1), -1);
        Due.is("size(7)", x.size(7), -1);
    }

    private static void row(ShipVoices x, int k, int... row) {
        for (int what = 0; what < 8; what++) {
            Due.is("message(" + k + ", " + what + ")", x.message(k, what), row[what]);
        }
    }

    private static void numbers() {
        ShipVoices x = new ShipVoices();
        Wire wire = new Wire(x);
        wire.send(0, Wire.position(0, -32768, 32767, -128, 127), Wire.position(1048575, 32767, -1, 127, -1));
        x.wait(3);
        wire.send(1, Wire.fixed(8, Wire.letters(26, 0, 1), Wire.letters(26, 26, 26), 255));
        wire.send(0, Wire.base(9, Integer.MAX_VALUE), Wire.base(9, 0));
        wire.send(0, Wire.piece(5, 7, 4, 5, Wire.letters(26, 1, 2, 3)), Wire.claim(4, 2249, 7), Wire.claim(4, 0, 1));
        row(x, 0, 1, 0, 0, 0, -32768, 32767, -128, 127);
        row(x, 1, 1, 1048575, 0, 0, 32767, -1, 127, -1);
        row(x, 2, 2, 8, 1, 3, Wire.letters(26, 0, 1), Wire.letters(26, 26, 26), 255, -1);
        row(x, 3, 3, 9, 0, 3, Integer.MAX_VALUE, -1, -1, -1);
        row(x, 4, 3, 9, 0, 3, 0, -1, -1, -1);
        row(x, 5, 4, 5, 0, 3, 7, 4, 5, Wire.letters(26, 1, 2, 3));
        row(x, 6, 5, 4, 0, 3, 2249, 7, -1, -1);
        row(x, 7, 5, 4, 0, 3, 0, 1, -1, -1);
        Due.is("none strange", x.count(3), 0);
        Due.none("message(8, 0)", () -> x.message(8, 0));
        Due.none("message(-1, 0)", () -> x.message(-1, 0));
        Due.none("message(0, 8)", () -> x.message(0, 8));
        Due.none("message(0, -1)", () -> x.message(0, -1));
        Due.none("message(most, most)", () -> x.message(Integer.MAX_VALUE, Integer.MAX_VALUE));
        Due.is("count(-1)", x.count(-1), -1);
        Due.is("count(9)", x.count(9), -1);
        Due.is("count(0)", x.count(0), 3);
    }

    private static void fullLog() {
        ShipVoices x = new ShipVoices();
        Wire wire = new Wire(x);
        String body = Wire.stuffed(GOOD + Wire.check(GOOD)) + Wire.MARK;
        Due.is("many at once", wire.hear(0, Wire.MARK + body.repeat(45)), 45);
        for (int k = 0; k < 3; k++) {
            Due.is("many more", wire.hear(k & 1, Wire.MARK + body.repeat(45)), 45);
        }
        Due.is("19 more", wire.hear(0, Wire.MARK + body.repeat(19)), 19);
        Due.is("the 200th", wire.send(0, Wire.fixed(3, 0, 0, 11)), 1);
        Due.is("log full", x.count(2), 200);
        Due.is("the 201st is read", wire.send(0, Wire.fixed(3, 0, 0, 12)), 1);
        Due.is("a strange one is read", wire.send(0, "1".repeat(20)), 1);
        Due.is("read", x.count(1), 202);
        Due.is("strange", x.count(3), 1);
        Due.is("log stays full", x.count(2), 200);
        Due.is("size as in the log", x.size(3), 11);
        wire.send(0, Wire.claim(8, 100, 1), Wire.position(9, 0, 0, 0, 0));
        wire.send(0, Wire.piece(9, 0, 0, 2, 0), Wire.piece(9, 0, 1, 2, 0));
        Due.is("no clash with what is not in the log", x.clashes(), 0);
        Due.is("no text of what is not in the log", x.texts(), 0);
        Due.is("no position", x.part(9, 1), -1);
        Due.none("message(200, 0)", () -> x.message(200, 0));
    }
}
