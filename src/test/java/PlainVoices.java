import java.util.ArrayList;
import java.util.Arrays;
import java.util.List;
import java.util.NoSuchElementException;

/**
 * The document told once more, slowly and by other ways than ShipVoices goes: all that was heard is
 * read anew from texts of 0 and 1, partings are tried out, meetings looked for second by second.
 */
final class PlainVoices {
    private static final int[] BODY = {0, 48, 38, 31, 29, 15};

    private final List<Integer> tape = new ArrayList<>();
    private final StringBuilder[] levels = {new StringBuilder(), new StringBuilder()};
    private final int[] framesRead = {0, 0};
    private final List<int[]> log = new ArrayList<>();
    private final List<int[]> texts = new ArrayList<>();
    private final List<Integer> usedUp = new ArrayList<>();
    private List<Integer> out = new ArrayList<>();
    private int now = 0;
    private int read = 0;
    private int strange = 0;
    private int[][] parting = new int[0][];
    private long cost = 0;
    private int when = -1;

    /** What all LEVELS of a channel say. */
    private static final class Heard {
        final List<String> frames = new ArrayList<>();
        StringBuilder put = null;
        int torn = 0;

        Heard(CharSequence levels) {
            StringBuilder bits = new StringBuilder();
            char ahead = '0';
            for (int k = 0; k < levels.length(); k++) {
                bits.append(levels.charAt(k) == ahead ? '1' : '0');
                ahead = levels.charAt(k);
            }
            int at = 0;
            while (at < bits.length()) {
                int zero = bits.indexOf("0", at);
                int run = (zero < 0 ? bits.length() : zero) - at;
                takeRun(run, zero >= 0);
                at += run + 1;
            }
        }

        private void takeRun(int ones, boolean closed) {
            for (int k = 0; k < Math.min(ones, 5); k++) {
                put('1');
            }
            if (ones >= 7) {
                lose();
            } else if (closed && ones == 6) {
                mark();
            } else if (closed && ones < 5) {
                put('0');
            }
        }

        private void put(char bit) {
            if (put != null && put.length() == 300) {
                lose();
            }
            if (put != null) {
                put.append(bit);
            }
        }

        private void lose() {
            if (put != null && put.length() >= 30) {
                torn++;
            }
            put = null;
        }

        private void mark() {
            if (put != null && put.length() >= 30) {
                String piece = put.substring(0, put.length() - 6);
                String message = piece.substring(0, piece.length() - 16);
                if (piece.equals(message + Wire.check(message))) {
                    frames.add(message);
                } else {
                    torn++;
                }
            }
            put = new StringBuilder();
        }
    }

    int feed(int... numbers) {
        if (tape.size() + 20 > 400) {
            return -1;
        }
        for (int number : numbers) {
            for (int k = 3; k >= 0; k--) {
                tape.add(number >>> 8 * k & 255);
            }
        }
        return tape.size();
    }

    boolean end(int n) {
        if (n < 0 || n > tape.size()) {
            return false;
        }
        tape.subList(n, tape.size()).clear();
        return true;
    }

    int hear(int channel) {
        if (channel < 0 || channel > 1) {
            return -1;
        }
        for (int octet : tape) {
            levels[channel].append(Wire.number(octet, 8));
        }
        tape.clear();
        List<String> frames = new Heard(levels[channel]).frames;
        int fresh = frames.size() - framesRead[channel];
        for (String frame : frames.subList(framesRead[channel], frames.size())) {
            readFrame(frame, channel);
        }
        framesRead[channel] = frames.size();
        return fresh;
    }

    private void readFrame(String frame, int channel) {
        int[] row = {0, -1, channel, now, -1, -1, -1, -1};
        if (!fill(row, frame)) {
            strange++;
            row = new int[] {0, -1, channel, now, -1, -1, -1, -1};
        }
        read++;
        if (log.size() < 200) {
            log.add(row);
            if (row[0] == 4) {
                tryText(log.size() - 1);
            }
        }
    }

    private static int unsigned(String frame, int from, int width) {
        return (int) Long.parseLong(frame.substring(from, from + width), 2);
    }

    private static boolean fill(int[] row, String f) {
        if (f.length() < 24) {
            return false;
        }
        int kind = unsigned(f, 0, 4);
        if (kind < 1 || kind > 5 || f.length() != 24 + BODY[kind]) {
            return false;
        }
        row[0] = kind;
        row[1] = unsigned(f, 4, 20);
        switch (kind) {
            case 1:
                row[4] = (short) unsigned(f, 24, 16);
                row[5] = (short) unsigned(f, 40, 16);
                row[6] = (byte) unsigned(f, 56, 8);
                row[7] = (byte) unsigned(f, 64, 8);
                return true;
            case 2:
                row[4] = unsigned(f, 24, 15);
                row[5] = unsigned(f, 39, 15);
                row[6] = unsigned(f, 54, 8);
                return lettersFrom(f, 24, 6);
            case 3:
                row[4] = unsigned(f, 24, 31);
                return true;
            case 4:
                row[4] = unsigned(f, 24, 3);
                row[5] = unsigned(f, 27, 3);
                row[6] = unsigned(f, 30, 3);
                row[7] = unsigned(f, 33, 20);
                return row[6] >= 2 && row[6] <= 5 && row[5] < row[6] && lettersFrom(f, 33, 4);
            default:
                row[4] = unsigned(f, 24, 12);
                row[5] = unsigned(f, 36, 3);
                return row[4] <= 2249 && row[5] >= 1;
        }
    }

    private static boolean lettersFrom(String f, int from, int many) {
        for (int k = 0; k < many; k++) {
            if (unsigned(f, from + 5 * k, 5) > 26) {
                return false;
            }
        }
        return true;
    }

    boolean wait(int seconds) {
        if (seconds < 0 || seconds > 100000 || (long) now + seconds > 2000000) {
            return false;
        }
        now += seconds;
        return true;
    }

    int build(int kind, int ship, int a, int b, int c, int d) {
        String message = tell(kind, ship, a, b, c, d);
        if (ship < 0 || ship > 1048575 || message == null || !fill(new int[8], message)) {
            return -1;
        }
        StringBuilder bits = new StringBuilder("0" + Wire.frame(message));
        while (bits.length() % 8 != 0) {
            bits.append('0');
        }
        List<Integer> octets = new ArrayList<>();
        int level = 0;
        int octet = 0;
        for (int k = 0; k < bits.length(); k++) {
            level = bits.charAt(k) == '1' ? level : 1 - level;
            octet = octet * 2 + level;
            if (k % 8 == 7) {
                octets.add(octet);
                octet = 0;
            }
        }
        out = octets;
        return out.size();
    }

    private static String tell(int kind, int ship, int a, int b, int c, int d) {
        switch (kind) {
            case 1:
                return a == (short) a && b == (short) b && c == (byte) c && d == (byte) d
                    ? Wire.position(ship, a, b, c, d) : null;
            case 2:
                return in(a, 32767) && in(b, 32767) && in(c, 255) ? Wire.fixed(ship, a, b, c) : null;
            case 3:
                return a >= 0 ? Wire.base(ship, a) : null;
            case 4:
                return in(a, 511) && in(b, 1023) && in(c, 1023)
                    ? Wire.piece(ship, a / 64, a / 8 % 8, a % 8, b * 1024 + c) : null;
            case 5:
                return in(a, 4095) && in(b, 7) ? Wire.claim(ship, a, b) : null;
            default:
                return null;
        }
    }

    private static boolean in(int number, int last) {
        return number >= 0 && number <= last;
    }

    private static <T> T at(List<T> list, int k) {
        if (k < 0 || k >= list.size()) {
            throw new NoSuchElementException();
        }
        return list.get(k);
    }

    int octet(int k) {
        return at(out, k);
    }

    int message(int k, int what) {
        int[] row = at(log, k);
        if (what < 0 || what > 7) {
            throw new NoSuchElementException();
        }
        return row[what];
    }

    int part(int ship, int speed) {
        List<int[]> own = new ArrayList<>();
        for (int k = 0; k < log.size(); k++) {
            int[] m = log.get(k);
            if (m[0] == 1 && m[1] == ship) {
                own.add(new int[] {m[3], m[4], m[5], k});
            }
        }
        if (own.isEmpty() || own.size() > 16 || speed < 1 || speed > 1000) {
            return -1;
        }
        own.sort((p, q) -> {
            for (int k = 0; k < 4; k++) {
                if (p[k] != q[k]) {
                    return Integer.compare(p[k], q[k]);
                }
            }
            return 0;
        });
        return partAll(own, speed);
    }

    private static long square(int[] p, int[] q) {
        long dx = p[1] - q[1];
        long dy = p[2] - q[2];
        return dx * dx + dy * dy;
    }

    private static boolean mayFollow(int[] p, int[] ahead, int speed) {
        long reach = (long) (p[0] - ahead[0]) * speed;
        return ahead[0] < p[0] && square(p, ahead) <= reach * reach;
    }

    /** best[k][followed]: tracks and cost of those from k on, when these ones are followed already. */
    private int partAll(List<int[]> own, int speed) {
        int n = own.size();
        long track = 1L << 45;
        long[][] best = new long[n + 1][];
        best[n] = new long[1 << n];
        for (int k = n - 1; k >= 0; k--) {
            best[k] = new long[1 << k];
            for (int followed = 0; followed < 1 << k; followed++) {
                long least = track + best[k + 1][followed];
                for (int j = 0; j < k; j++) {
                    if ((followed >> j & 1) == 0 && mayFollow(own.get(k), own.get(j), speed)) {
                        least = Math.min(least, square(own.get(k), own.get(j)) + best[k + 1][followed | 1 << j]);
                    }
                }
                best[k][followed] = least;
            }
        }
        int[][] made = new int[n][];
        int followed = 0;
        int tracks = 0;
        for (int k = 0; k < n; k++) {
            int ahead = -1;
            for (int j = k - 1; j >= 0; j--) {
                if ((followed >> j & 1) == 0 && mayFollow(own.get(k), own.get(j), speed)
                    && best[k][followed] == square(own.get(k), own.get(j)) + best[k + 1][followed | 1 << j]) {
                    ahead = j;
                }
            }
            made[k] = new int[] {own.get(k)[3], ahead, ahead < 0 ? tracks++ : made[ahead][2]};
            followed |= ahead < 0 ? 0 : 1 << ahead;
        }
        parting = made;
        cost = best[0][0] % track;
        return tracks;
    }

    long cost() {
        return cost;
    }

    int parted(int k, int what) {
        return k < 0 || k >= parting.length || what < 0 || what > 2 ? -1 : parting[k][what];
    }

    private List<int[]> allClashes() {
        List<int[]> all = new ArrayList<>();
        for (int later = 0; later < log.size(); later++) {
            for (int earlier = 0; earlier < later; earlier++) {
                int[] p = log.get(later);
                int[] q = log.get(earlier);
                if (p[0] == 5 && q[0] == 5 && p[1] != q[1] && p[4] == q[4] && p[3] - q[3] < 60 * q[5]) {
                    all.add(new int[] {later, earlier});
                }
            }
        }
        return all;
    }

    int clashes() {
        return allClashes().size();
    }

    int clash(int k, int what) {
        int[] pair = at(allClashes(), k);
        if (what < 0 || what > 1) {
            throw new NoSuchElementException();
        }
        return pair[what];
    }

    private void tryText(int last) {
        int[] m = log.get(last);
        List<Integer> own = new ArrayList<>();
        for (int k = 0; k <= last; k++) {
            int[] p = log.get(k);
            if (p[0] == 4 && p[1] == m[1] && p[4] == m[4] && p[6] == m[6]) {
                own.add(k);
            }
        }
        int[] text = new int[4 + 4 * m[6]];
        text[0] = m[1];
        text[1] = m[4];
        text[2] = 4 * m[6];
        text[3] = last;
        for (int which = 0; which < m[6]; which++) {
            int newest = -1;
            for (int k : own) {
                if (log.get(k)[5] == which && !usedUp.contains(k)) {
                    newest = k;
                }
            }
            if (newest < 0) {
                return;
            }
            String letters = Wire.number(log.get(newest)[7], 20);
            for (int i = 0; i < 4; i++) {
                text[4 + 4 * which + i] = unsigned(letters, 5 * i, 5);
            }
        }
        texts.add(text);
        usedUp.addAll(own);
    }

    int texts() {
        return texts.size();
    }

    int text(int k, int what) {
        int[] text = at(texts, k);
        if (what < 0 || what > 3) {
            throw new NoSuchElementException();
        }
        return text[what];
    }

    int letter(int k, int i) {
        int[] text = at(texts, k);
        if (i < 0 || i >= text[2]) {
            throw new NoSuchElementException();
        }
        return text[4 + i];
    }

    private int[] latest(int kind, int ship) {
        int[] found = null;
        for (int[] m : log) {
            if (m[0] == kind && m[1] == ship && (found == null || m[3] >= found[3])) {
                found = m;
            }
        }
        return found;
    }

    long meet(int ship, int other) {
        int[] p = latest(1, ship);
        int[] q = latest(1, other);
        if (ship == other || p == null || q == null) {
            return -1;
        }
        long least = Long.MAX_VALUE;
        for (int t = now; t <= now + 3600; t++) {
            long dx = p[4] + (long) p[6] * (t - p[3]) - q[4] - (long) q[6] * (t - q[3]);
            long dy = p[5] + (long) p[7] * (t - p[3]) - q[5] - (long) q[7] * (t - q[3]);
            if (dx * dx + dy * dy < least) {
                least = dx * dx + dy * dy;
                when = t;
            }
        }
        return least;
    }

    int when() {
        return when;
    }

    int size(int ship) {
        int[] m = latest(2, ship);
        return m == null ? -1 : m[6];
    }

    int count(int what) {
        int[] all = {now, read, log.size(), strange, torn(), tape.size(), out.size(), put(0), put(1)};
        return what < 0 || what > 8 ? -1 : all[what];
    }

    private int torn() {
        return new Heard(levels[0]).torn + new Heard(levels[1]).torn;
    }

    private int put(int channel) {
        StringBuilder put = new Heard(levels[channel]).put;
        return put == null ? -1 : put.length();
    }

    @Override
    public String toString() {
        return now + " " + Arrays.deepToString(log.toArray());
    }
}
