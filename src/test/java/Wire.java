/** Writes BITS as texts of 0 and 1, and lets an object hear them; knows the LEVELS sent so far. */
final class Wire {
    static final String MARK = "01111110";

    private final ShipVoices x;
    private final int[] level = {0, 0};

    Wire(ShipVoices x) {
        this.x = x;
    }

    static String number(long value, int width) {
        StringBuilder s = new StringBuilder();
        for (int k = width - 1; k >= 0; k--) {
            s.append(value >> k & 1);
        }
        return s.toString();
    }

    static String check(String bits) {
        int sum = 65535;
        for (int k = 0; k < bits.length(); k++) {
            boolean turn = sum >= 32768 != (bits.charAt(k) == '1');
            sum = sum * 2 % 65536;
            if (turn) {
                sum ^= 4129;
            }
        }
        return number(65535 - sum, 16);
    }

    static String stuffed(String bits) {
        return bits.replace("11111", "111110");
    }

    /** A frame between two marks. */
    static String frame(String message) {
        return MARK + stuffed(message + check(message)) + MARK;
    }

    static String position(int ship, int px, int py, int u, int v) {
        return number(1, 4) + number(ship, 20) + number(px, 16) + number(py, 16) + number(u, 8) + number(v, 8);
    }

    static String fixed(int ship, int first, int second, int length) {
        return number(2, 4) + number(ship, 20) + number(first, 15) + number(second, 15) + number(length, 8);
    }

    static String base(int ship, int time) {
        return number(3, 4) + number(ship, 20) + number(time, 31);
    }

    static String piece(int ship, int row, int which, int many, int letters) {
        return number(4, 4) + number(ship, 20) + number(row, 3) + number(which, 3) + number(many, 3) + number(letters, 20);
    }

    static String claim(int ship, int slot, int minutes) {
        return number(5, 4) + number(ship, 20) + number(slot, 12) + number(minutes, 3);
    }

    static int letters(int... each) {
        int all = 0;
        for (int one : each) {
            all = all * 32 + one;
        }
        return all;
    }

    /** Hears the BITS, filled up with BITS 0 to a whole byte; at most 400 bytes. */
    int hear(int channel, String bits) {
        String whole = bits + "0".repeat((8 - bits.length() % 8) % 8);
        int[] bytes = new int[(whole.length() / 8 + 19) / 20 * 20];
        for (int k = 0; k < whole.length(); k++) {
            if (whole.charAt(k) == '0') {
                level[channel] = 1 - level[channel];
            }
            bytes[k / 8] = bytes[k / 8] * 2 + level[channel];
        }
        for (int k = 0; k < bytes.length; k += 20) {
            x.feed(word(bytes, k), word(bytes, k + 4), word(bytes, k + 8), word(bytes, k + 12), word(bytes, k + 16));
        }
        x.end(whole.length() / 8);
        return x.hear(channel);
    }

    /** Hears messages, each in a frame of its own. */
    int send(int channel, String... messages) {
        int read = 0;
        for (String message : messages) {
            read += hear(channel, frame(message));
        }
        return read;
    }

    /** The BITS of a frame between its marks. */
    static String body(String message) {
        return stuffed(message + check(message));
    }

    /** Hears messages with one mark between each two, many on a tape, to spare calls. */
    int sendAll(int channel, String... messages) {
        int read = 0;
        StringBuilder bits = new StringBuilder(MARK);
        for (String message : messages) {
            String more = body(message) + MARK;
            if (bits.length() + more.length() > 3200) {
                read += hear(channel, bits.toString());
                bits = new StringBuilder(MARK);
            }
            bits.append(more);
        }
        return read + hear(channel, bits.toString());
    }

    /** The twenty bytes from a place on, as the five numbers of feed; 0 where the row has ended. */
    static int[] words(int[] bytes, int from) {
        int[] words = new int[5];
        for (int k = 0; k < 20; k++) {
            int one = from + k < bytes.length ? bytes[from + k] & 255 : 0;
            words[k / 4] |= one << 24 - k % 4 * 8;
        }
        return words;
    }

    /** Puts bytes behind the tape and nothing else: the tape must have room for the last twenty. */
    static void feed(ShipVoices x, int... bytes) {
        int before = x.count(5);
        for (int k = 0; k < bytes.length; k += 20) {
            int[] w = words(bytes, k);
            x.feed(w[0], w[1], w[2], w[3], w[4]);
        }
        x.end(before + bytes.length);
    }

    /** OUT. */
    static int[] out(ShipVoices x) {
        int[] out = new int[x.count(6)];
        for (int k = 0; k < out.length; k++) {
            out[k] = x.octet(k);
        }
        return out;
    }

    /** The BITS that bytes tell as from a LEVEL 0 on. */
    static String bits(int... bytes) {
        StringBuilder s = new StringBuilder();
        int level = 0;
        for (int one : bytes) {
            for (int k = 7; k >= 0; k--) {
                s.append((one >> k & 1) == level ? '1' : '0');
                level = one >> k & 1;
            }
        }
        return s.toString();
    }

    /** Both hear the BITS of one frame on channel 0, filled up with BITS 0 to twenty bytes. */
    static void hearBoth(ShipVoices x, PlainVoices y, String bits) {
        int[] words = new int[5];
        int level = 0;
        for (int k = 0; k < 160; k++) {
            level = k < bits.length() && bits.charAt(k) == '1' ? level : 1 - level;
            words[k / 32] = words[k / 32] << 1 | level;
        }
        x.feed(words[0], words[1], words[2], words[3], words[4]);
        y.feed(words[0], words[1], words[2], words[3], words[4]);
        Due.is("heard", x.hear(0), y.hear(0));
    }

    private static int word(int[] bytes, int k) {
        return bytes[k] << 24 | bytes[k + 1] << 16 | bytes[k + 2] << 8 | bytes[k + 3];
    }
}
