/** Promises 6 (build) and 7 (octet): each sentence that names a boundary case. */
public final class EdgeBuildTest {
    private static final int MOST = Integer.MAX_VALUE;
    private static final int LEAST = Integer.MIN_VALUE;

    public static void main(String[] args) {
        asToldByWords();
        stuffing();
        lastOnes();
        wholeByte();
        fromLevelZero();
        kindsAndShips();
        positions();
        statics();
        bases();
        pieces();
        claims();
        unused();
        outStays();
        octets();
        noOctet();
        Due.finish();
    }

    private static void tells(ShipVoices x, String call, int bytes, String message) {
        String due = "0" + Wire.MARK + Wire.stuffed(message + Wire.check(message)) + Wire.MARK;
        due += "0".repeat((8 - due.length() % 8) % 8);
        Due.is(call, bytes, due.length() / 8);
        Due.is("count(6)", x.count(6), bytes);
        Due.same("the BITS of " + call, Wire.bits(Wire.out(x)), due);
    }

    private static void asToldByWords() {
        Due.about("Promise 6", "OUT are LEVELS, as bytes, as from a LEVEL 0 on, that tell a MESSAGE: a BIT 0, a MARK (01111110), "
            + "the MESSAGE and its CHECK (a 0 behind each five BITS 1 that stand behind one another, the last ones, too), a MARK, "
            + "BITS 0 up to a whole byte: how many bytes;");
        ShipVoices x = new ShipVoices();
        tells(x, "a POSITION", x.build(1, 7, -2, 3, -4, 5), Wire.position(7, -2, 3, -4, 5));
        tells(x, "a STATIC", x.build(2, 8, 1091, 26624, 200, 0), Wire.fixed(8, 1091, 26624, 200));
        tells(x, "a BASE", x.build(3, 9, 123456789, 0, 0, 0), Wire.base(9, 123456789));
        tells(x, "a PART", x.build(4, 10, 64 * 5 + 8 * 2 + 3, 33, 66, 0), Wire.piece(10, 5, 2, 3, 33 * 1024 + 66));
        tells(x, "a CLAIM", x.build(5, 11, 100, 3, 0, 0), Wire.claim(11, 100, 3));
    }

    private static void stuffing() {
        Due.about("Promise 6", "(a 0 behind each five BITS 1 that stand behind one another, the last ones, too)");
        ShipVoices x = new ShipVoices();
        tells(x, "ONES all along", x.build(1, 1048575, -1, -1, -1, -1), Wire.position(1048575, -1, -1, -1, -1));
        tells(x, "31 ONES", x.build(3, 1048575, MOST, 0, 0, 0), Wire.base(1048575, MOST));
        // Sixteen BITS 0 are put in: 121 BITS, the longest OUT that there is.
        tells(x, "the longest", x.build(1, 1048575, -1, -131, -1, -3), Wire.position(1048575, -1, -131, -1, -3));
        Due.is("its bytes", x.count(6), 16);
        Due.is("its last byte", x.octet(15) & 1, 0);
        Due.none("octet(16)", () -> x.octet(16));
        Wire.feed(x, Wire.out(x));
        Due.is("it is heard", x.hear(1), 1);
        Due.is("its y", x.message(0, 5), -131);
        for (int ones = 0; ones <= 20; ones++) {
            int ship = (1 << ones) - 1;
            tells(x, ones + " ONES in SHIP", x.build(5, ship, 0, 1, 0, 0), Wire.claim(ship, 0, 1));
            tells(x, ones + " ONES, then a 1", x.build(5, ship, 2048, 1, 0, 0), Wire.claim(ship, 2048, 1));
        }
    }

    /** The CHECK's last five BITS are ONES: a 0 stands between them and the MARK's own 0. */
    private static void lastOnes() {
        Due.about("Promise 6", "the last ones, too");
        ShipVoices x = new ShipVoices();
        int found = 0;
        for (int ship = 0; ship < 20000 && found < 4; ship++) {
            String message = Wire.claim(ship, 77, 2);
            if (Wire.body(message).endsWith("111110") && Wire.check(message).endsWith("11111")) {
                found++;
                tells(x, "the last five are ONES", x.build(5, ship, 77, 2, 0, 0), message);
                Wire.feed(x, Wire.out(x));
                Due.is("heard", x.hear(0), 1);
                Due.is("as the SHIP's", x.message(x.count(2) - 1, 1), ship);
            }
        }
        Due.is("found", found, 4);
        Due.is("none TORN", x.count(4), 0);
    }

    private static void wholeByte() {
        Due.about("Promise 6", "BITS 0 up to a whole byte: how many bytes;");
        int[] seen = new int[8];
        ShipVoices x = new ShipVoices();
        for (int k = 0; k < 32 * 200; k++) {
            int ship = k % 200;
            int time = (1 << k / 200) - 1 & MOST;
            int over = (17 + Wire.body(Wire.base(ship, time)).length()) % 8;
            if (seen[over] == 0) {
                seen[over] = 1;
                tells(x, over + " BITS over whole bytes", x.build(3, ship, time, 0, 0, 0), Wire.base(ship, time));
            }
        }
        for (int over = 0; over < 8; over++) {
            Due.is("one seen with " + over, seen[over], 1);
        }
    }

    private static void fromLevelZero() {
        Due.about("Promise 6", "as from a LEVEL 0 on, that tell a MESSAGE: a BIT 0,");
        int[] due = {128, 154, 170, 168, 87, 104, 31, 124, 128, 170};
        int[][] ahead = {{1, 5, 1, 2, 3, 4}, {2, 5, 1, 2, 3, 0}, {3, 5, 9, 0, 0, 0}, {4, 5, 2, 3, 4, 0}, {5, 5, 0, 1, 0, 0}};
        for (int[] m : ahead) {
            ShipVoices z = new ShipVoices();
            z.build(m[0], m[1], m[2], m[3], m[4], m[5]);
            z.build(5, 7, 100, 3, 0, 0);
            for (int k = 0; k < 10; k++) {
                Due.is("whatever OUT was, octet(" + k + ")", z.octet(k), due[k]);
            }
        }
        ShipVoices x = new ShipVoices();
        Wire.feed(x, 0xff);
        x.hear(0);
        x.build(5, 7, 100, 3, 0, 0);
        Due.is("whatever LEVEL was heard last", x.octet(0), 128);
    }

    private static int build(int... m) {
        return new ShipVoices().build(m[0], m[1], m[2], m[3], m[4], m[5]);
    }

    private static void fine(int... m) {
        ShipVoices x = new ShipVoices();
        String call = "build(" + m[0] + ", " + m[1] + ", " + m[2] + ", " + m[3] + ", " + m[4] + ", " + m[5] + ")";
        Due.isTrue(call, x.build(m[0], m[1], m[2], m[3], m[4], m[5]) > 0);
        Wire.feed(x, Wire.out(x));
        Due.is(call + " is heard", x.hear(0), 1);
        Due.is("KIND", x.message(0, 0), m[0]);
        Due.is("SHIP", x.message(0, 1), m[1]);
        for (int k = 0; k < 4 && m[0] != 4; k++) {
            int used = m[0] == 1 ? 4 : m[0] == 2 ? 3 : m[0] == 3 ? 1 : 2;
            Due.is("number " + k, x.message(0, 4 + k), k < used ? m[2 + k] : -1);
        }
        if (m[0] == 4) {
            Due.is("ROW", x.message(0, 4), m[2] / 64);
            Due.is("WHICH", x.message(0, 5), m[2] / 8 % 8);
            Due.is("MANY", x.message(0, 6), m[2] % 8);
            Due.is("LETTERS", x.message(0, 7), m[3] * 1024 + m[4]);
        }
    }

    private static void bad(int... m) {
        String call = "build(" + m[0] + ", " + m[1] + ", " + m[2] + ", " + m[3] + ", " + m[4] + ", " + m[5] + ")";
        Due.is(call, build(m), -1);
    }

    private static void kindsAndShips() {
        Due.about("Promise 6", "NONE (OUT stays): kind not 1 to 5, SHIP not 0 to 1048575, or a number not as told");
        int[] kinds = {0, 6, -1, 7, 15, 16, 17, 21, LEAST, MOST};
        for (int kind : kinds) {
            bad(kind, 5, 2, 1, 0, 0);
        }
        for (int kind = 1; kind <= 5; kind++) {
            fine(kind, 0, 2, 1, 0, 0);
            fine(kind, 1048575, 2, 1, 0, 0);
            bad(kind, -1, 2, 1, 0, 0);
            bad(kind, 1048576, 2, 1, 0, 0);
            bad(kind, LEAST, 2, 1, 0, 0);
            bad(kind, MOST, 2, 1, 0, 0);
        }
    }

    private static void positions() {
        Due.about("Promise 6", "POSITION: a x, b y, c u, d v;");
        int[][] edges = {{32767, -32768}, {32767, -32768}, {127, -128}, {127, -128}};
        for (int place = 0; place < 4; place++) {
            for (int k = -1; k <= 1; k++) {
                int[] high = {1, 5, 1, 2, 3, 4};
                high[2 + place] = edges[place][0] + k;
                int[] low = {1, 5, 1, 2, 3, 4};
                low[2 + place] = edges[place][1] - k;
                if (k <= 0) {
                    fine(high);
                    fine(low);
                } else {
                    bad(high);
                    bad(low);
                }
            }
            int[] wild = {LEAST, MOST, 65535, -65536, 65536};
            for (int w : wild) {
                int[] m = {1, 5, 0, 0, 0, 0};
                m[2 + place] = w;
                bad(m);
            }
        }
    }

    private static void statics() {
        Due.about("Promise 6", "STATIC: a its first three LETTERS as a number of 15 bits, b the others, c LONG;");
        int all = Wire.letters(26, 26, 26);
        fine(2, 5, all, all, 255, 0);
        fine(2, 5, 0, 0, 0, 0);
        for (int place = 0; place < 3; place++) {
            for (int letter = 26; letter < 32; letter++) {
                int number = letter << 5 * place;
                if (letter == 26) {
                    fine(2, 5, number, 0, 1, 0);
                    fine(2, 5, 0, number, 1, 0);
                } else {
                    bad(2, 5, number, 0, 1, 0);
                    bad(2, 5, 0, number, 1, 0);
                }
            }
        }
        int[] wild = {-1, 32768, 65536, LEAST, MOST};
        for (int w : wild) {
            bad(2, 5, w, 0, 1, 0);
            bad(2, 5, 0, w, 1, 0);
        }
        int[] sizes = {-1, 256, LEAST, MOST};
        for (int size : sizes) {
            bad(2, 5, 0, 0, size, 0);
        }
    }

    private static void bases() {
        Due.about("Promise 6", "(each in its field, as told in 2; BASE: a;");
        fine(3, 5, 0, 0, 0, 0);
        fine(3, 5, MOST, 0, 0, 0);
        bad(3, 5, -1, 0, 0, 0);
        bad(3, 5, LEAST, 0, 0, 0);
    }

    private static void pieces() {
        Due.about("Promise 6", "PART: a 64 ROW and 8 WHICH and MANY, b its first two LETTERS (10 bits), c the others;");
        int both = Wire.letters(26, 26);
        for (int a = 0; a < 512; a++) {
            int which = a / 8 % 8;
            int many = a % 8;
            if (many >= 2 && many <= 5 && which < many) {
                fine(4, 5, a, both, both, 0);
            } else {
                bad(4, 5, a, both, both, 0);
            }
        }
        int[] wild = {-1, 512 + 2, 1024 + 2, 514 + (1 << 20), LEAST, LEAST + 2, MOST, -512 + 2};
        for (int w : wild) {
            bad(4, 5, w, 0, 0, 0);
        }
        int[] letters = {27, 31, 27 * 32, 31 * 32, 1023, 1024, -1, LEAST, MOST};
        for (int w : letters) {
            bad(4, 5, 2, w, 0, 0);
            bad(4, 5, 2, 0, w, 0);
        }
        fine(4, 5, 2, 26, 26 * 32, 0);
        fine(4, 5, 2, 26 * 32, 26, 0);
        fine(4, 5, 2, 0, 0, 0);
    }

    private static void claims() {
        Due.about("Promise 6", "CLAIM: a, b;");
        fine(5, 5, 0, 1, 0, 0);
        fine(5, 5, 2249, 7, 0, 0);
        int[] slots = {-1, 2250, 4095, 4096, LEAST, MOST};
        for (int slot : slots) {
            bad(5, 5, slot, 1, 0, 0);
        }
        int[] minutes = {0, 8, 9, -1, LEAST, MOST};
        for (int many : minutes) {
            bad(5, 5, 0, many, 0, 0);
        }
    }

    private static void unused() {
        Due.about("Promise 6", "numbers that are not used are whatever they are).");
        int[] whatever = {-1, 0, 1, LEAST, MOST, 32768};
        int[][] all = {{2, 5, 33, 66, 9, 0}, {3, 5, 99, 0, 0, 0}, {4, 5, 2, 33, 66, 0}, {5, 5, 99, 3, 0, 0}};
        int[] used = {3, 1, 3, 2};
        for (int k = 0; k < 4; k++) {
            ShipVoices x = new ShipVoices();
            int[] m = all[k];
            int bytes = x.build(m[0], m[1], m[2], m[3], m[4], m[5]);
            String due = Wire.bits(Wire.out(x));
            for (int w : whatever) {
                int b = used[k] < 2 ? w : m[3];
                int c = used[k] < 3 ? w : m[4];
                Due.is("KIND " + m[0] + " with " + w, x.build(m[0], m[1], m[2], b, c, w), bytes);
                Due.same("OUT", Wire.bits(Wire.out(x)), due);
            }
        }
    }

    private static void outStays() {
        Due.about("Promise 6", "NONE (OUT stays): kind not 1 to 5, SHIP not 0 to 1048575, or a number not as told");
        ShipVoices x = new ShipVoices();
        Due.is("refused at first", x.build(6, 0, 0, 1, 0, 0), -1);
        Due.is("OUT is empty still", x.count(6), 0);
        Due.none("octet(0)", () -> x.octet(0));
        x.build(1, 7, 1, 2, 3, 4);
        String due = Wire.bits(Wire.out(x));
        int[][] refused = {
            {0, 5, 0, 1, 0, 0}, {6, 5, 0, 1, 0, 0}, {5, -1, 0, 1, 0, 0}, {5, 1048576, 0, 1, 0, 0}, {1, 5, 32768, 0, 0, 0},
            {2, 5, 27, 0, 0, 0}, {3, 5, -1, 0, 0, 0}, {4, 5, 1, 0, 0, 0}, {5, 5, 2250, 1, 0, 0}, {5, 5, 0, 0, 0, 0},
        };
        for (int[] m : refused) {
            Due.is("refused", x.build(m[0], m[1], m[2], m[3], m[4], m[5]), -1);
            Due.same("OUT stays", Wire.bits(Wire.out(x)), due);
        }
        Wire.feed(x, Wire.out(x));
        x.hear(0);
        Due.same("OUT stays when it was heard", Wire.bits(Wire.out(x)), due);
    }

    private static void octets() {
        Due.about("Promise 7", "Byte k of OUT.");
        ShipVoices x = new ShipVoices();
        int[] out = {128, 154, 170, 168, 87, 104, 31, 124, 128, 170};
        Due.is("how many", x.build(5, 7, 100, 3, -5, 99), 10);
        for (int k = 0; k < 10; k++) {
            Due.is("octet(" + k + ")", x.octet(k), out[k]);
        }
    }

    private static void noOctet() {
        Due.about("Promise 7", "NoSuchElementException: there is none such.");
        ShipVoices x = new ShipVoices();
        Due.none("octet(0) of an empty OUT", () -> x.octet(0));
        Due.none("octet(-1) of an empty OUT", () -> x.octet(-1));
        int longer = x.build(1, 1048575, -1, -1, -1, -1);
        Due.is("the last", x.octet(longer - 1) >= 0 ? 1 : 0, 1);
        int[] none = {longer, longer + 1, -1, LEAST, MOST, 256, 1 << 31 >> 3};
        for (int k : none) {
            Due.none("octet(" + k + ")", () -> x.octet(k));
        }
        int shorter = x.build(5, 0, 0, 1, 0, 0);
        Due.isTrue("shorter", shorter < longer);
        Due.none("octet behind a shorter OUT", () -> x.octet(shorter));
        Due.none("the last of the longer OUT", () -> x.octet(longer - 1));
    }
}
