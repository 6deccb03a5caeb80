/** Terms 2, and promises 8 (message) and 20 (count): each sentence that names a boundary case of MESSAGES and the LOG. */
public final class EdgeMessagesTest {
    private static final int MOST = Integer.MAX_VALUE;
    private static final int LEAST = Integer.MIN_VALUE;

    public static void main(String[] args) {
        shipsAndSigns();
        letters();
        baseTime();
        pieces();
        claims();
        otherKinds();
        notSoManyBits();
        strangeRow();
        nowAtFirst();
        logAsRead();
        fullLog();
        messageNumbers();
        messageNone();
        counts();
        countsOfBits();
        countNone();
        Due.finish();
    }

    private static void row(ShipVoices x, int k, int... due) {
        for (int what = 0; what < 8; what++) {
            Due.is("message(" + k + ", " + what + ")", x.message(k, what), due[what]);
        }
    }

    /** Sends one message to a new object on channel 0 and compares its row in the LOG; none given: it is STRANGE. */
    private static void reads(String message, int... due) {
        ShipVoices x = new ShipVoices();
        Due.is("read", new Wire(x).send(0, message), 1);
        Due.is("in the LOG", x.count(2), 1);
        if (due.length == 0) {
            row(x, 0, 0, -1, 0, 0, -1, -1, -1, -1);
            Due.is("STRANGE", x.count(3), 1);
        } else {
            row(x, 0, due[0], due[1], 0, 0, due[2], due[3], due[4], due[5]);
            Due.is("STRANGE", x.count(3), 0);
        }
        Due.is("TORN", x.count(4), 0);
    }

    private static void shipsAndSigns() {
        Due.about("Terms 2", "MESSAGES: a FRAME's BITS without its CHECK; numbers, the highest bit first (s: with a sign): "
            + "KIND 4, SHIP 20, then by KIND: 1 POSITION: x s16, y s16, u s8, v s8 (x, y go by u, v a SECOND).");
        reads(Wire.position(0, 0, 0, 0, 0), 1, 0, 0, 0, 0, 0);
        reads(Wire.position(1048575, -1, -1, -1, -1), 1, 1048575, -1, -1, -1, -1);
        reads(Wire.position(1, 32767, -32768, 127, -128), 1, 1, 32767, -32768, 127, -128);
        reads(Wire.position(524288, -32768, 32767, -128, 127), 1, 524288, -32768, 32767, -128, 127);
        reads("0001" + "10000000000000000001" + "0111111111111110" + "1000000000000001" + "01111110" + "10000001",
            1, 524289, 32766, -32767, 126, -127);
    }

    private static void letters() {
        Due.about("Terms 2", "2 STATIC: six LETTERS of 5 (0 none, 1 to 26 a to z), LONG 8.");
        int all = Wire.letters(26, 26, 26);
        reads(Wire.fixed(3, 0, 0, 0), 2, 3, 0, 0, 0, -1);
        reads(Wire.fixed(3, all, all, 255), 2, 3, all, all, 255, -1);
        reads(Wire.fixed(3, Wire.letters(1, 0, 26), Wire.letters(0, 26, 1), 128),
            2, 3, 1 * 1024 + 26, 26 * 32 + 1, 128, -1);
        for (int place = 0; place < 6; place++) {
            for (int letter = 25; letter < 32; letter++) {
                int first = place < 3 ? letter << 10 - 5 * place : 0;
                int second = place < 3 ? 0 : letter << 25 - 5 * place;
                if (letter <= 26) {
                    reads(Wire.fixed(3, first, second, 9), 2, 3, first, second, 9, -1);
                } else {
                    reads(Wire.fixed(3, first, second, 9));
                }
            }
        }
    }

    private static void baseTime() {
        Due.about("Terms 2", "3 BASE: TIME 31.");
        reads(Wire.base(3, 0), 3, 3, 0, -1, -1, -1);
        reads(Wire.base(3, MOST), 3, 3, MOST, -1, -1, -1);
        reads(Wire.base(3, 1 << 30), 3, 3, 1 << 30, -1, -1, -1);
    }

    private static void pieces() {
        Due.about("Terms 2", "4 PART: ROW 3, WHICH 3, MANY 3 (2 to 5, WHICH below it), four LETTERS of 5.");
        int all = Wire.letters(26, 26, 26, 26);
        for (int many = 0; many < 8; many++) {
            for (int which = 0; which < 8; which++) {
                if (many >= 2 && many <= 5 && which < many) {
                    reads(Wire.piece(3, 7, which, many, all), 4, 3, 7, which, many, all);
                    reads(Wire.piece(3, 0, which, many, 0), 4, 3, 0, which, many, 0);
                } else {
                    reads(Wire.piece(3, 7, which, many, all));
                }
            }
        }
        for (int place = 0; place < 4; place++) {
            reads(Wire.piece(3, 1, 0, 2, 26 << 15 - 5 * place), 4, 3, 1, 0, 2, 26 << 15 - 5 * place);
            reads(Wire.piece(3, 1, 0, 2, 27 << 15 - 5 * place));
            reads(Wire.piece(3, 1, 0, 2, 31 << 15 - 5 * place));
        }
    }

    private static void claims() {
        Due.about("Terms 2", "5 CLAIM: SLOT 12 (0 to 2249), MINUTES 3 (1 to 7).");
        reads(Wire.claim(3, 0, 1), 5, 3, 0, 1, -1, -1);
        reads(Wire.claim(3, 2249, 7), 5, 3, 2249, 7, -1, -1);
        reads(Wire.claim(3, 2048, 4), 5, 3, 2048, 4, -1, -1);
        reads(Wire.claim(3, 2250, 7));
        reads(Wire.claim(3, 4095, 1));
        reads(Wire.claim(3, 0, 0));
        reads(Wire.claim(3, 2249, 0));
    }

    private static void otherKinds() {
        Due.about("Terms 2", "All else (another KIND, not just so many BITS, a number not as told) is STRANGE.");
        String[] bodies = {"0".repeat(48), "0".repeat(38), "0".repeat(31), "000000010" + "0".repeat(20), "000000000000001"};
        for (String body : bodies) {
            for (int kind = 0; kind < 16; kind++) {
                boolean right = kind >= 1 && kind <= 5 && bodies[kind - 1].equals(body);
                String message = Wire.number(kind, 4) + Wire.number(9, 20) + body;
                ShipVoices x = new ShipVoices();
                Due.is("read", new Wire(x).send(0, message), 1);
                Due.is("KIND " + kind + " with " + body.length() + " BITS", x.message(0, 0), right ? kind : 0);
                Due.is("its SHIP", x.message(0, 1), right ? 9 : -1);
                Due.is("STRANGE", x.count(3), right ? 0 : 1);
            }
        }
    }

    private static void notSoManyBits() {
        Due.about("Terms 2", "All else (another KIND, not just so many BITS, a number not as told) is STRANGE.");
        String[] whole = {
            Wire.position(9, 1, 2, 3, 4), Wire.fixed(9, 1, 2, 3), Wire.base(9, 5), Wire.piece(9, 1, 0, 2, 3), Wire.claim(9, 1, 1),
        };
        for (String message : whole) {
            reads(message + "0");
            reads(message + "1");
            reads(message + "00000000");
            reads(message.substring(0, message.length() - 1));
            reads(message.substring(0, 25));
            reads(message.substring(0, 24));
            reads(message.substring(0, 23));
            reads(message.substring(0, 8));
            reads(message + "01".repeat(139).substring(message.length()));
        }
    }

    private static void strangeRow() {
        Due.about("Promise 8", "Of MESSAGE k of the LOG: 0 KIND (0: STRANGE), 1 SHIP (NONE if STRANGE, likewise below), "
            + "2 CHANNEL (also if STRANGE), 3 SECOND (likewise),");
        ShipVoices x = new ShipVoices();
        Wire wire = new Wire(x);
        x.wait(100000);
        wire.send(1, Wire.claim(9, 2250, 7));
        x.wait(1);
        wire.send(0, Wire.position(9, 1, 2, 3, 4) + "0");
        row(x, 0, 0, -1, 1, 100000, -1, -1, -1, -1);
        row(x, 1, 0, -1, 0, 100001, -1, -1, -1, -1);
        wire.send(0, Wire.position(9, 1, 2, 3, 4));
        row(x, 2, 1, 9, 0, 100001, 1, 2, 3, 4);
        wire.send(1, "00000000");
        row(x, 3, 0, -1, 1, 100001, -1, -1, -1, -1);
    }

    private static void nowAtFirst() {
        Due.about("Terms 2", "NOW is a SECOND, 0 at first.");
        ShipVoices x = new ShipVoices();
        Due.is("count(0)", x.count(0), 0);
        new Wire(x).send(0, Wire.base(1, 99));
        Due.is("a BASE does not set it", x.count(0), 0);
        Due.is("the SECOND of the first MESSAGE", x.message(0, 3), 0);
    }

    private static void logAsRead() {
        Due.about("Terms 2", "The LOG has MESSAGES, STRANGE ones, too, as they were READ, each with its CHANNEL and SECOND;");
        ShipVoices x = new ShipVoices();
        Wire wire = new Wire(x);
        wire.sendAll(1, Wire.claim(1, 1, 1), "0".repeat(20), Wire.base(1, 1));
        x.wait(2);
        wire.sendAll(0, Wire.claim(2, 1, 1), Wire.claim(1, 1, 1));
        int[][] due = {{5, 1, 0}, {0, 1, 0}, {3, 1, 0}, {5, 0, 2}, {5, 0, 2}};
        Due.is("in the LOG", x.count(2), 5);
        for (int k = 0; k < 5; k++) {
            Due.is("KIND " + k, x.message(k, 0), due[k][0]);
            Due.is("CHANNEL " + k, x.message(k, 2), due[k][1]);
            Due.is("SECOND " + k, x.message(k, 3), due[k][2]);
        }
    }

    /** An object whose LOG lacks so many of its 200. */
    private static ShipVoices nearlyFull(Wire[] wire, int lacking) {
        ShipVoices x = new ShipVoices();
        wire[0] = new Wire(x);
        String[] many = new String[200 - lacking];
        for (int k = 0; k < many.length; k++) {
            many[k] = k % 10 == 0 ? "01010101" : Wire.claim(7, k, 1);
        }
        Due.is("filling", wire[0].sendAll(0, many), many.length);
        return x;
    }

    private static void fullLog() {
        Due.about("Terms 2", "200 at most: later ones are READ, but are not in it.");
        Wire[] wire = new Wire[1];
        ShipVoices x = nearlyFull(wire, 2);
        Due.is("of three on one tape all are read", wire[0].sendAll(1, Wire.base(1, 1), Wire.fixed(1, 0, 0, 5), Wire.fixed(1, 0, 0, 6)), 3);
        Due.is("in the LOG", x.count(2), 200);
        Due.is("READ", x.count(1), 201);
        Due.is("the 200th", x.message(199, 6), 5);
        Due.none("the 201st", () -> x.message(200, 0));
        Due.is("STRANGE ones READ", x.count(3), 20);
        Due.is("a STRANGE one more", wire[0].send(0, "11110000"), 1);
        Due.is("STRANGE ones READ", x.count(3), 21);
        Due.is("in the LOG", x.count(2), 200);
        Due.is("READ", x.count(1), 202);
        Due.is("size goes by the LOG", x.size(1), 5);
        wire[0].sendAll(0, Wire.position(1, 0, 0, 0, 0), Wire.position(2, 0, 0, 0, 0), Wire.claim(8, 1, 7), Wire.claim(9, 199, 7),
            Wire.piece(1, 0, 0, 2, 0), Wire.piece(1, 0, 1, 2, 0));
        Due.is("no POSITION", x.part(1, 1), -1);
        Due.is("no MEETING", x.meet(1, 2), -1);
        Due.is("no CLASH", x.clashes(), 0);
        Due.is("no TEXT", x.texts(), 0);
        Due.is("READ", x.count(1), 208);
        ShipVoices z = nearlyFull(wire, 1);
        Due.is("199 in the LOG", z.count(2), 199);
        wire[0].sendAll(0, Wire.claim(8, 1, 7), Wire.claim(9, 1, 7));
        Due.is("the 200th makes a CLASH, the 201st none", z.clashes(), 1);
        ShipVoices t = nearlyFull(wire, 2);
        wire[0].sendAll(0, Wire.piece(1, 0, 0, 2, 0), Wire.piece(1, 0, 1, 2, 0), Wire.piece(1, 0, 0, 2, 0), Wire.piece(1, 0, 1, 2, 0));
        Due.is("a TEXT with the 200th, none behind", t.texts(), 1);
        Due.is("it was whole with it", t.text(0, 3), 199);
    }

    private static void messageNumbers() {
        Due.about("Promise 8", "4 to 7 its numbers: x, y, u, v; LETTERS 1 to 3 and 4 to 6 as numbers of 15 bits, LONG; TIME; "
            + "ROW, WHICH, MANY, its LETTERS as a number of 20 bits; SLOT, MINUTES (NONE: no such number).");
        ShipVoices x = new ShipVoices();
        Wire wire = new Wire(x);
        wire.sendAll(0, Wire.position(1, -2, 3, -4, 5), Wire.fixed(2, Wire.letters(1, 2, 3), Wire.letters(4, 5, 6), 7), Wire.base(3, 8),
            Wire.piece(4, 5, 1, 3, Wire.letters(9, 10, 11, 12)), Wire.claim(5, 13, 6), "10101010");
        row(x, 0, 1, 1, 0, 0, -2, 3, -4, 5);
        row(x, 1, 2, 2, 0, 0, 1024 + 64 + 3, 4096 + 160 + 6, 7, -1);
        row(x, 2, 3, 3, 0, 0, 8, -1, -1, -1);
        row(x, 3, 4, 4, 0, 0, 5, 1, 3, 9 * 32768 + 10 * 1024 + 11 * 32 + 12);
        row(x, 4, 5, 5, 0, 0, 13, 6, -1, -1);
        row(x, 5, 0, -1, 0, 0, -1, -1, -1, -1);
    }

    private static void messageNone() {
        Due.about("Promise 8", "NoSuchElementException: there is none such, or another what.");
        ShipVoices x = new ShipVoices();
        Due.none("of an empty LOG", () -> x.message(0, 0));
        Due.none("of an empty LOG, -1", () -> x.message(-1, 0));
        new Wire(x).sendAll(0, Wire.claim(1, 1, 1), "01010101");
        for (int what = 0; what < 8; what++) {
            int w = what;
            Due.none("message(2, " + w + ")", () -> x.message(2, w));
            Due.none("message(-1, " + w + ")", () -> x.message(-1, w));
        }
        int[] other = {-1, 8, 9, LEAST, MOST};
        for (int w : other) {
            Due.none("message(0, " + w + ")", () -> x.message(0, w));
            Due.none("message(1, " + w + "), a STRANGE one", () -> x.message(1, w));
        }
        int[] wild = {LEAST, MOST, 200, 1 << 29, 1 << 28 | 1, -1 << 29};
        for (int k : wild) {
            Due.none("message(" + k + ", 0)", () -> x.message(k, 0));
        }
        Due.is("message(1, 7)", x.message(1, 7), -1);
        Due.is("message(0, 0)", x.message(0, 0), 5);
    }

    private static void counts() {
        Due.about("Promise 20", "0 NOW, 1 MESSAGES READ, 2 those in the LOG, 3 STRANGE ones READ, 4 TORN, 5 bytes of the tape, 6 of OUT,");
        ShipVoices x = new ShipVoices();
        Wire wire = new Wire(x);
        wire.sendAll(0, Wire.claim(1, 1, 1), "01010101", Wire.base(1, 1));
        wire.hear(1, Wire.MARK + "0".repeat(40) + Wire.MARK);
        x.wait(77);
        x.build(5, 7, 100, 3, 0, 0);
        x.feed(1, 2, 3, 4, 5);
        x.end(13);
        int[] due = {77, 3, 3, 1, 1, 13, 10};
        for (int what = 0; what < 7; what++) {
            Due.is("count(" + what + ")", x.count(what), due[what]);
        }
    }

    private static void countsOfBits() {
        Due.about("Promise 20", "7, 8 BITS put on CHANNELS 0, 1 since the latest MARK (NONE: LOST, or ahead of any MARK).");
        ShipVoices x = new ShipVoices();
        Wire wire = new Wire(x);
        wire.hear(0, "01010101");
        Due.is("ahead of any MARK", x.count(7), -1);
        wire.hear(0, Wire.MARK);
        Due.is("just behind it", x.count(7), 0);
        Due.is("ahead of any on 1", x.count(8), -1);
        wire.hear(1, Wire.MARK + "00000000");
        Due.is("count(8)", x.count(8), 8);
        Due.is("count(7) stays", x.count(7), 0);
        wire.hear(1, "01111111");
        Due.is("LOST", x.count(8), -1);
        wire.hear(1, Wire.MARK + "0000000100000000");
        Due.is("a MARK again", x.count(8), 16);
        Due.is("count(7) stays", x.count(7), 0);
    }

    private static void countNone() {
        Due.about("Promise 20", "NONE for another what.");
        ShipVoices x = new ShipVoices();
        Wire wire = new Wire(x);
        wire.hear(0, Wire.MARK + "00000000");
        wire.hear(1, Wire.MARK + "00000000");
        int[] other = {-1, 9, 10, 16, LEAST, MOST};
        for (int what : other) {
            Due.is("count(" + what + ")", x.count(what), -1);
        }
    }
}
