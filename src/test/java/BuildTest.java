/** Promises 6 (build) and 7 (octet). */
public final class BuildTest {
    public static void main(String[] args) {
        known();
        edges();
        refused();
        heardAgain();
        Due.finish();
    }

    private static void known() {
        ShipVoices x = new ShipVoices();
        int[] out = {128, 154, 170, 168, 87, 104, 31, 124, 128, 170};
        Due.is("build", x.build(5, 7, 100, 3, -5, 99), out.length);
        for (int k = 0; k < out.length; k++) {
            Due.is("octet(" + k + ")", x.octet(k), out[k]);
        }
        Due.none("octet(10)", () -> x.octet(10));
        Due.none("octet(-1)", () -> x.octet(-1));
        Due.none("octet(least)", () -> x.octet(Integer.MIN_VALUE));
        Due.is("refused", x.build(6, 7, 100, 3, 0, 0), -1);
        Due.is("OUT stays", x.count(6), 10);
        Due.is("octet(9) stays", x.octet(9), 170);
        Due.is("another one", x.build(1, 1048575, -1, 32767, -128, 127), 15);
        Due.is("count(6)", x.count(6), 15);
        Due.is("octet(14)", x.octet(14), 234);
    }

    private static void edges() {
        ShipVoices x = new ShipVoices();
        int[][] fine = {
            {1, 0, -32768, -32768, -128, -128}, {1, 1048575, 32767, 32767, 127, 127},
            {2, 5, Wire.letters(26, 26, 26), Wire.letters(26, 26, 26), 255, -1}, {2, 5, 0, 0, 0, 1 << 30},
            {3, 5, 0, -1, -1, -1}, {3, 5, Integer.MAX_VALUE, 9, 9, 9},
            {4, 5, 2, 0, 0, -7}, {4, 5, 64 * 7 + 8 * 4 + 5, Wire.letters(26, 26), Wire.letters(26, 26), 7},
            {5, 5, 0, 1, -1, -1}, {5, 5, 2249, 7, Integer.MIN_VALUE, Integer.MAX_VALUE},
        };
        for (int[] m : fine) {
            Due.isTrue("build kind " + m[0], x.build(m[0], m[1], m[2], m[3], m[4], m[5]) > 0);
        }
    }

    private static void refused() {
        int[][] bad = {
            {0, 5, 0, 1, 0, 0}, {6, 5, 0, 1, 0, 0}, {-1, 5, 0, 1, 0, 0}, {Integer.MIN_VALUE, 5, 0, 1, 0, 0},
            {5, -1, 0, 1, 0, 0}, {5, 1048576, 0, 1, 0, 0},
            {1, 5, 32768, 0, 0, 0}, {1, 5, -32769, 0, 0, 0}, {1, 5, 0, 32768, 0, 0}, {1, 5, 0, -32769, 0, 0},
            {1, 5, 0, 0, 128, 0}, {1, 5, 0, 0, -129, 0}, {1, 5, 0, 0, 0, 128}, {1, 5, 0, 0, 0, -129},
            {2, 5, -1, 0, 0, 0}, {2, 5, 32768, 0, 0, 0}, {2, 5, 27, 0, 0, 0}, {2, 5, 27 * 32, 0, 0, 0},
            {2, 5, 27 * 1024, 0, 0, 0}, {2, 5, 0, -1, 0, 0}, {2, 5, 0, 32768, 0, 0}, {2, 5, 0, 31, 0, 0},
            {2, 5, 0, 27 * 1024, 0, 0}, {2, 5, 0, 0, -1, 0}, {2, 5, 0, 0, 256, 0},
            {3, 5, -1, 0, 0, 0}, {3, 5, Integer.MIN_VALUE, 0, 0, 0},
            {4, 5, -1, 0, 0, 0}, {4, 5, 512 + 2, 0, 0, 0}, {4, 5, 0, 0, 0, 0}, {4, 5, 1, 0, 0, 0}, {4, 5, 6, 0, 0, 0},
            {4, 5, 7, 0, 0, 0}, {4, 5, 16 + 2, 0, 0, 0}, {4, 5, 40 + 5, 0, 0, 0}, {4, 5, 2, -1, 0, 0},
            {4, 5, 2, 1024, 0, 0}, {4, 5, 2, 27, 0, 0}, {4, 5, 2, 27 * 32, 0, 0}, {4, 5, 2, 0, -1, 0},
            {4, 5, 2, 0, 1024, 0}, {4, 5, 2, 0, 27, 0}, {4, 5, 2, 0, 27 * 32, 0},
            {5, 5, -1, 1, 0, 0}, {5, 5, 2250, 1, 0, 0}, {5, 5, 4096, 1, 0, 0}, {5, 5, 0, 0, 0, 0}, {5, 5, 0, 8, 0, 0},
            {5, 5, 0, -1, 0, 0},
        };
        ShipVoices x = new ShipVoices();
        x.build(3, 1, 1, 0, 0, 0);
        int bytes = x.count(6);
        int last = x.octet(bytes - 1);
        for (int k = 0; k < bad.length; k++) {
            int[] m = bad[k];
            Due.is("bad " + k, x.build(m[0], m[1], m[2], m[3], m[4], m[5]), -1);
            Due.is("OUT stays", x.count(6), bytes);
            Due.is("its last byte, too", x.octet(bytes - 1), last);
        }
    }

    /** What is built is heard, from either level, as the message that was asked for. */
    private static void heardAgain() {
        ShipVoices x = new ShipVoices();
        int[][] all = {
            {1, 7, -5, 6, -7, 8}, {2, 8, 1091, 26624, 200, -1}, {3, 9, 123456789, -1, -1, -1},
            {5, 1048575, 2047, 7, -1, -1}, {3, 1048575, Integer.MAX_VALUE, -1, -1, -1}, {1, 1048575, -1, -1, -1, -1},
        };
        for (int k = 0; k < all.length; k++) {
            int[] m = all[k];
            int bytes = x.build(m[0], m[1], m[2], m[3], m[4], m[5]);
            int[] words = new int[5];
            for (int i = 0; i < bytes; i++) {
                words[i / 4] |= x.octet(i) << 24 - i % 4 * 8;
            }
            int turn = k % 2 == 0 ? 0 : -1;
            x.feed(words[0] ^ turn, words[1] ^ turn, words[2] ^ turn, words[3] ^ turn, words[4] ^ turn);
            x.end(bytes);
            Due.is("heard again " + k, x.hear(0), 1);
            Due.is("kind", x.message(k, 0), m[0]);
            Due.is("ship", x.message(k, 1), m[1]);
            for (int i = 0; i < 4; i++) {
                Due.is("number " + i, x.message(k, 4 + i), m[2 + i]);
            }
        }
        Due.is("none torn", x.count(4), 0);
    }
}
