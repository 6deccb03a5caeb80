import java.util.NoSuchElementException;

/**
 * A listener to ships. What each call answers is told in the document, promise by promise; words
 * of the document that are written large there (LEVEL, MARK, PIECE, LOG ..) mean the same here.
 */
public final class ShipVoices {
    public static final int NONE = -1;

    private static final int FEED_BYTES = 20;
    private static final int LONGEST_WAIT = 100000;
    private static final int LAST_SECOND = 2000000;
    private static final int FASTEST = 1000;

    private static final int STRANGE = 0;
    private static final int POSITION = 1;
    private static final int STATIC = 2;
    private static final int PART = 4;
    private static final int CLAIM = 5;

    private static final int KIND_BITS = 4;
    private static final int SHIP_BITS = 20;
    private static final int CHECK_BITS = 16;
    private static final int CHECK_START = 65535;

    private final Tape tape = new Tape();
    private final Ear ear0 = new Ear();
    private final Ear ear1 = new Ear();
    private final Telling telling = new Telling();
    private final Sender sender = new Sender();
    private final Log log = new Log();
    private final ClashBook clashBook = new ClashBook();
    private final TextBook textBook = new TextBook();
    private final Parting parting = new Parting();
    private final Meeting meeting = new Meeting();
    private int now = 0;
    private int read = 0;
    private int strange = 0;

    public ShipVoices() {
    }

    public int feed(int a, int b, int c, int d, int e) {
        if (!tape.hasRoomFor(FEED_BYTES)) {
            return NONE;
        }
        tape.addNumber(a);
        tape.addNumber(b);
        tape.addNumber(c);
        tape.addNumber(d);
        tape.addNumber(e);
        return tape.length();
    }

    public boolean end(int n) {
        return tape.cutTo(n);
    }

    public int hear(int channel) {
        if (channel != 0 && channel != 1) {
            return NONE;
        }
        int before = read;
        Ear ear = channel == 0 ? ear0 : ear1;
        int levels = tape.length() * 8;
        for (int k = 0; k < levels; k++) {
            if (ear.takeLevel(tape.levelAt(k))) {
                readFrame(ear, channel);
            }
        }
        tape.cutTo(0);
        return read - before;
    }

    public boolean wait(int seconds) {
        if (seconds < 0 || seconds > LONGEST_WAIT || seconds > LAST_SECOND - now) {
            return false;
        }
        now += seconds;
        return true;
    }

    public int build(int kind, int ship, int a, int b, int c, int d) {
        if (!telling.compose(kind, ship, a, b, c, d)) {
            return NONE;
        }
        sender.tell(telling);
        return sender.bytes();
    }

    public int octet(int k) throws NoSuchElementException {
        if (k < 0 || k >= sender.bytes()) {
            throw new NoSuchElementException("no such byte");
        }
        return sender.byteAt(k);
    }

    public int message(int k, int what) throws NoSuchElementException {
        if (!log.has(k) || what < 0 || what >= Log.WIDTH) {
            throw new NoSuchElementException("no such message");
        }
        return log.cell(k, what);
    }

    public int part(int ship, int speed) {
        if (speed < 1 || speed > FASTEST) {
            return NONE;
        }
        return parting.make(log, ship, speed);
    }

    public long cost() {
        return parting.together();
    }

    public int parted(int k, int what) {
        return parting.tellOf(k, what);
    }

    public int clashes() {
        return clashBook.total();
    }

    public int clash(int k, int what) throws NoSuchElementException {
        if (k < 0 || k >= clashBook.total() || what < 0 || what > 1) {
            throw new NoSuchElementException("no such clash");
        }
        int later = clashBook.laterOf(k);
        return what == 0 ? later : clashBook.earlierOf(log, k, later);
    }

    public int texts() {
        return textBook.joined();
    }

    public int text(int k, int what) throws NoSuchElementException {
        if (k < 0 || k >= textBook.joined() || what < 0 || what > 3) {
            throw new NoSuchElementException("no such text");
        }
        int whole = textBook.wholeWith(k);
        switch (what) {
            case 0:
                return log.cell(whole, Log.SHIP);
            case 1:
                return log.cell(whole, Log.ROW);
            case 2:
                return textBook.lettersIn(log, k);
            default:
                return whole;
        }
    }

    public int letter(int k, int i) throws NoSuchElementException {
        if (k < 0 || k >= textBook.joined() || i < 0 || i >= textBook.lettersIn(log, k)) {
            throw new NoSuchElementException("no such letter");
        }
        return textBook.letterOf(log, k, i);
    }

    public long meet(int ship, int other) {
        if (ship == other) {
            return NONE;
        }
        int mine = log.latest(POSITION, ship);
        int theirs = log.latest(POSITION, other);
        if (mine == NONE || theirs == NONE) {
            return NONE;
        }
        return meeting.find(log, mine, theirs, now);
    }

    public int when() {
        return meeting.second();
    }

    public int size(int ship) {
        int told = log.latest(STATIC, ship);
        return told == NONE ? NONE : log.cell(told, Log.LONG);
    }

    public int count(int what) {
        switch (what) {
            case 0:
                return now;
            case 1:
                return read;
            case 2:
                return log.entries();
            case 3:
                return strange;
            case 4:
                return ear0.torn() + ear1.torn();
            case 5:
                return tape.length();
            case 6:
                return sender.bytes();
            case 7:
                return ear0.bitsPut();
            case 8:
                return ear1.bitsPut();
            default:
                return NONE;
        }
    }

    private void readFrame(Ear ear, int channel) {
        telling.readFrom(ear);
        read++;
        if (telling.kind() == STRANGE) {
            strange++;
        }
        int k = log.add(telling, channel, now);
        if (k == NONE) {
            return;
        }
        if (telling.kind() == CLAIM) {
            clashBook.note(log, k);
        } else if (telling.kind() == PART) {
            textBook.note(log, k);
        }
    }

    /** The running CHECK after one BIT more; its 16 bits are turned by whoever needs the end. */
    private static int checkAfter(int check, int bit) {
        int doubled = check << 1 & 65535;
        return (check >> 15 & 1) != bit ? doubled ^ 4129 : doubled;
    }

    /** The bytes that wait to be heard. */
    private static final class Tape {
        private static final int ROOM = 400;

        private final byte[] row = new byte[ROOM];
        private int used = 0;

        int length() {
            return used;
        }

        boolean hasRoomFor(int bytes) {
            return used + bytes <= ROOM;
        }

        void addNumber(int number) {
            for (int shift = 24; shift >= 0; shift -= 8) {
                if (used < ROOM) {
                    row[used] = (byte) (number >> shift);
                    used++;
                }
            }
        }

        boolean cutTo(int bytes) {
            if (bytes < 0 || bytes > used) {
                return false;
            }
            used = bytes;
            return true;
        }

        int levelAt(int k) {
            int at = k >> 3;
            return at >= 0 && at < used ? row[at] >> 7 - (k & 7) & 1 : 0;
        }
    }

    /** What one CHANNEL has heard: it turns LEVELS to BITS, and BITS to PIECES and FRAMES. */
    private static final class Ear {
        private static final int MOST_PUT = 300;
        private static final int STUFFED_ONES = 5;
        private static final int MARK_ONES = 6;
        private static final int LOSING_ONES = 7;
        private static final int MARK_PUT = 6;
        private static final int SHORTEST_PIECE = 24;

        private final byte[] bits = new byte[MOST_PUT];
        private int level = 0;
        private int ones = 0;
        // NONE while LOST and ahead of any MARK: both wait for a MARK and put nothing.
        private int put = NONE;
        private int torn = 0;
        private int frame = 0;

        int torn() {
            return torn;
        }

        int bitsPut() {
            return put;
        }

        /** How many BITS the FRAME of the latest takeLevel has without its CHECK. */
        int frameBits() {
            return frame;
        }

        /** Whether this LEVEL ends a FRAME: it may be read until the next LEVEL is taken. */
        boolean takeLevel(int next) {
            boolean one = next == level;
            level = next;
            if (one) {
                takeOne();
                return false;
            }
            int behind = ones;
            ones = 0;
            if (behind == MARK_ONES) {
                return endPiece();
            }
            if (behind < STUFFED_ONES) {
                putBit(0);
            }
            return false;
        }

        /** A number in the FRAME, the highest bit first. */
        int number(int from, int width) {
            int number = 0;
            for (int k = from; k < from + width; k++) {
                number = number << 1 | bitAt(k);
            }
            return number;
        }

        private int bitAt(int k) {
            return k >= 0 && k < MOST_PUT ? bits[k] : 0;
        }

        private void takeOne() {
            // More than 7 tell nothing new, so that the number need not grow on.
            if (ones < LOSING_ONES) {
                ones++;
            }
            if (ones <= STUFFED_ONES) {
                putBit(1);
            } else if (ones == LOSING_ONES) {
                lose();
            }
        }

        private void putBit(int bit) {
            if (put == NONE) {
                return;
            }
            if (put >= MOST_PUT) {
                lose();
                return;
            }
            bits[put] = (byte) bit;
            put++;
        }

        private void lose() {
            if (put >= SHORTEST_PIECE + MARK_PUT) {
                torn++;
            }
            put = NONE;
        }

        private boolean endPiece() {
            int piece = put - MARK_PUT;
            put = 0;
            if (piece < SHORTEST_PIECE) {
                return false;
            }
            frame = piece - CHECK_BITS;
            if (isChecked()) {
                return true;
            }
            torn++;
            return false;
        }

        private boolean isChecked() {
            int check = CHECK_START;
            for (int k = 0; k < frame; k++) {
                check = checkAfter(check, bitAt(k));
            }
            return (check ^ 65535) == number(frame, CHECK_BITS);
        }
    }

    /** One MESSAGE with its numbers, as it is read from a FRAME or told to the sender. */
    private static final class Telling {
        private static final int NUMBERS = 4;
        private static final int LAST_KIND = 5;
        private static final int SHIPS = 1048576;
        private static final int LETTER_BITS = 5;
        private static final int LAST_LETTER = 26;
        private static final int SLOTS = 2250;
        private static final int LEAST_MANY = 2;
        private static final int MOST_MANY = 5;

        // Four for each KIND from 1 on, 0: no such number.
        private static final int[] WIDTHS = {
            16, 16, 8, 8,
            15, 15, 8, 0,
            31, 0, 0, 0,
            3, 3, 3, 20,
            12, 3, 0, 0
        };

        private final int[] numbers = new int[NUMBERS];
        private int kind = STRANGE;
        private int ship = NONE;

        int kind() {
            return kind;
        }

        int ship() {
            return ship;
        }

        int number(int i) {
            return i >= 0 && i < NUMBERS ? numbers[i] : NONE;
        }

        int width(int i) {
            int at = (kind - 1) * NUMBERS + i;
            return i >= 0 && i < NUMBERS && at >= 0 && at < WIDTHS.length ? WIDTHS[at] : 0;
        }

        void readFrom(Ear ear) {
            if (!readAll(ear)) {
                kind = STRANGE;
                ship = NONE;
                setNumbers(NONE, NONE, NONE, NONE);
            }
        }

        private boolean readAll(Ear ear) {
            int at = KIND_BITS + SHIP_BITS;
            if (ear.frameBits() < at) {
                return false;
            }
            kind = ear.number(0, KIND_BITS);
            ship = ear.number(KIND_BITS, SHIP_BITS);
            if (!isKind(kind) || ear.frameBits() != at + bodyBits()) {
                return false;
            }
            for (int i = 0; i < NUMBERS; i++) {
                int width = width(i);
                numbers[i] = width == 0 ? NONE : signed(ear.number(at, width), width);
                at += width;
            }
            return isAsTold();
        }

        /** False, if there is no such MESSAGE; what stands here is of no use then. */
        boolean compose(int kind, int ship, int a, int b, int c, int d) {
            if (!isKind(kind) || ship < 0 || ship >= SHIPS) {
                return false;
            }
            this.kind = kind;
            this.ship = ship;
            if (kind == PART) {
                if (a >>> 9 != 0 || b >>> 10 != 0 || c >>> 10 != 0) {
                    return false;
                }
                setNumbers(a >> 6, a >> 3 & 7, a & 7, b << 10 | c);
            } else {
                setNumbers(a, b, c, d);
            }
            return areInFields() && isAsTold();
        }

        private static boolean isKind(int kind) {
            return kind >= POSITION && kind <= LAST_KIND;
        }

        private int bodyBits() {
            int bits = 0;
            for (int i = 0; i < NUMBERS; i++) {
                bits += width(i);
            }
            return bits;
        }

        private void setNumbers(int a, int b, int c, int d) {
            numbers[0] = a;
            numbers[1] = b;
            numbers[2] = c;
            numbers[3] = d;
        }

        private int signed(int number, int width) {
            boolean below = kind == POSITION && (number >> width - 1 & 1) == 1;
            return below ? number - (1 << width) : number;
        }

        private boolean areInFields() {
            for (int i = 0; i < NUMBERS; i++) {
                int width = width(i);
                if (width > 0 && !fits(numbers[i], width)) {
                    return false;
                }
            }
            return true;
        }

        private boolean fits(int number, int width) {
            if (kind == POSITION) {
                int half = 1 << width - 1;
                return number >= -half && number < half;
            }
            return number >>> width == 0;
        }

        /** What the document asks of the numbers beyond their widths. */
        private boolean isAsTold() {
            switch (kind) {
                case STATIC:
                    return areLetters(numbers[0], 3) && areLetters(numbers[1], 3);
                case PART:
                    return numbers[2] >= LEAST_MANY && numbers[2] <= MOST_MANY
                        && numbers[1] < numbers[2] && areLetters(numbers[3], 4);
                case CLAIM:
                    return numbers[0] < SLOTS && numbers[1] > 0;
                default:
                    return true;
            }
        }

        private static boolean areLetters(int number, int many) {
            for (int i = 0; i < many; i++) {
                if ((number >> i * LETTER_BITS & 31) > LAST_LETTER) {
                    return false;
                }
            }
            return true;
        }
    }

    /** OUT, and how a MESSAGE is told there. */
    private static final class Sender {
        // The longest MESSAGE, each bit of it 1, has less than 128 LEVELS.
        private static final int ROOM = 16;

        private final byte[] out = new byte[ROOM];
        private int levels = 0;
        private int level = 0;
        private int ones = 0;
        private int check = CHECK_START;

        int bytes() {
            return levels >> 3;
        }

        int byteAt(int k) {
            return k >= 0 && k < bytes() && k < ROOM ? out[k] & 255 : 0;
        }

        void tell(Telling telling) {
            levels = 0;
            level = 0;
            addBit(0);
            addMark();
            ones = 0;
            check = CHECK_START;
            addNumber(telling.kind(), KIND_BITS);
            addNumber(telling.ship(), SHIP_BITS);
            for (int i = 0; i < Telling.NUMBERS; i++) {
                addNumber(telling.number(i), telling.width(i));
            }
            addNumber(check ^ 65535, CHECK_BITS);
            addMark();
            for (int k = 0; k < 8 && (levels & 7) != 0; k++) {
                addBit(0);
            }
        }

        private void addMark() {
            addBit(0);
            for (int k = 0; k < Ear.MARK_ONES; k++) {
                addBit(1);
            }
            addBit(0);
        }

        private void addNumber(int number, int width) {
            for (int shift = width - 1; shift >= 0; shift--) {
                addStuffed(number >> shift & 1);
            }
        }

        private void addStuffed(int bit) {
            check = checkAfter(check, bit);
            addBit(bit);
            ones = bit == 1 ? ones + 1 : 0;
            if (ones == Ear.STUFFED_ONES) {
                addBit(0);
                ones = 0;
            }
        }

        private void addBit(int bit) {
            int at = levels >> 3;
            if (at >= ROOM) {
                return;
            }
            level = bit == 1 ? level : 1 - level;
            int before = (levels & 7) == 0 ? 0 : out[at];
            out[at] = (byte) (before | level << 7 - (levels & 7));
            levels++;
        }
    }

    /** The LOG: a row of numbers for each MESSAGE, placed as the call message numbers them. */
    private static final class Log {
        static final int MOST = 200;
        static final int WIDTH = 8;

        static final int KIND = 0;
        static final int SHIP = 1;
        static final int CHANNEL = 2;
        static final int SECOND = 3;
        static final int FIRST_NUMBER = 4;

        static final int X = 4;
        static final int Y = 5;
        static final int U = 6;
        static final int V = 7;
        static final int LONG = 6;
        static final int ROW = 4;
        static final int WHICH = 5;
        static final int MANY = 6;
        static final int LETTERS = 7;
        static final int SLOT = 4;
        static final int MINUTES = 5;

        private final int[] cells = new int[MOST * WIDTH];
        private int entries = 0;

        int entries() {
            return entries;
        }

        boolean has(int k) {
            return k >= 0 && k < entries;
        }

        int cell(int k, int what) {
            return has(k) && what >= 0 && what < WIDTH ? cells[k * WIDTH + what] : NONE;
        }

        /** The MESSAGE's number in the LOG; NONE, if the LOG is full. */
        int add(Telling telling, int channel, int second) {
            if (entries >= MOST) {
                return NONE;
            }
            int at = entries * WIDTH;
            cells[at + KIND] = telling.kind();
            cells[at + SHIP] = telling.ship();
            cells[at + CHANNEL] = channel;
            cells[at + SECOND] = second;
            for (int i = 0; i < Telling.NUMBERS; i++) {
                cells[at + FIRST_NUMBER + i] = telling.number(i);
            }
            entries++;
            return entries - 1;
        }

        boolean isOf(int k, int kind, int ship) {
            return cell(k, KIND) == kind && cell(k, SHIP) == ship;
        }

        /** NOW never goes back, so the last one in the LOG is the latest by SECOND, too. */
        int latest(int kind, int ship) {
            for (int k = entries - 1; k >= 0; k--) {
                if (isOf(k, kind, ship)) {
                    return k;
                }
            }
            return NONE;
        }

        int howMany(int kind, int ship) {
            int many = 0;
            for (int k = 0; k < entries; k++) {
                if (isOf(k, kind, ship)) {
                    many++;
                }
            }
            return many;
        }
    }

    /** How many CLASHES each CLAIM made when it came; which they are is looked up in the LOG. */
    private static final class ClashBook {
        private static final int MINUTE = 60;

        private final int[] made = new int[Log.MOST];
        private int total = 0;

        int total() {
            return total;
        }

        void note(Log log, int k) {
            if (k < 0 || k >= Log.MOST) {
                return;
            }
            int many = 0;
            for (int earlier = 0; earlier < k; earlier++) {
                if (doClash(log, k, earlier)) {
                    many++;
                }
            }
            made[k] = many;
            total += many;
        }

        int laterOf(int clash) {
            int ahead = 0;
            for (int k = 0; k < Log.MOST; k++) {
                ahead += made[k];
                if (ahead > clash) {
                    return k;
                }
            }
            return NONE;
        }

        int earlierOf(Log log, int clash, int later) {
            int left = clash;
            for (int k = 0; k < later && k < Log.MOST; k++) {
                left -= made[k];
            }
            for (int k = 0; k < later; k++) {
                if (doClash(log, later, k)) {
                    if (left == 0) {
                        return k;
                    }
                    left--;
                }
            }
            return NONE;
        }

        private static boolean doClash(Log log, int later, int earlier) {
            if (log.cell(earlier, Log.KIND) != CLAIM
                || log.cell(earlier, Log.SLOT) != log.cell(later, Log.SLOT)
                || log.cell(earlier, Log.SHIP) == log.cell(later, Log.SHIP)) {
                return false;
            }
            int freeFrom = log.cell(earlier, Log.SECOND) + log.cell(earlier, Log.MINUTES) * MINUTE;
            return log.cell(later, Log.SECOND) < freeFrom;
        }
    }

    /** The TEXTS, each as the numbers in the LOG of the PARTS that it was joined from. */
    private static final class TextBook {
        // Each TEXT uses up two PARTS of the LOG at least.
        private static final int MOST = Log.MOST / 2;
        private static final int MOST_PARTS = Telling.MOST_MANY;
        private static final int PART_LETTERS = 4;

        private final boolean[] usedUp = new boolean[Log.MOST];
        private final int[] pieces = new int[MOST * MOST_PARTS];
        private final int[] whole = new int[MOST];
        private final int[] newest = new int[MOST_PARTS];
        private int joined = 0;

        int joined() {
            return joined;
        }

        int wholeWith(int k) {
            return k >= 0 && k < joined && k < MOST ? whole[k] : NONE;
        }

        int lettersIn(Log log, int k) {
            return log.cell(wholeWith(k), Log.MANY) * PART_LETTERS;
        }

        int letterOf(Log log, int k, int i) {
            int at = k * MOST_PARTS + i / PART_LETTERS;
            if (i < 0 || at < 0 || at >= pieces.length) {
                return NONE;
            }
            int place = PART_LETTERS - 1 - i % PART_LETTERS;
            return log.cell(pieces[at], Log.LETTERS) >> place * Telling.LETTER_BITS & 31;
        }

        void note(Log log, int k) {
            int many = log.cell(k, Log.MANY);
            if (joined < MOST && many <= MOST_PARTS && findNewest(log, k, many)) {
                join(log, k, many);
            }
        }

        /** Whether all are there, those that are used up left aside. */
        private boolean findNewest(Log log, int k, int many) {
            for (int which = 0; which < MOST_PARTS; which++) {
                newest[which] = NONE;
            }
            int found = 0;
            for (int p = 0; p <= k && p < Log.MOST; p++) {
                int which = log.cell(p, Log.WHICH);
                if (!usedUp[p] && areOfOneText(log, p, k) && which >= 0 && which < many) {
                    found += newest[which] == NONE ? 1 : 0;
                    newest[which] = p;
                }
            }
            return found == many;
        }

        private void join(Log log, int k, int many) {
            for (int which = 0; which < many; which++) {
                pieces[joined * MOST_PARTS + which] = newest[which];
            }
            whole[joined] = k;
            joined++;
            for (int p = 0; p <= k && p < Log.MOST; p++) {
                if (areOfOneText(log, p, k)) {
                    usedUp[p] = true;
                }
            }
        }

        private static boolean areOfOneText(Log log, int p, int k) {
            return log.isOf(p, PART, log.cell(k, Log.SHIP))
                && log.cell(p, Log.ROW) == log.cell(k, Log.ROW)
                && log.cell(p, Log.MANY) == log.cell(k, Log.MANY);
        }
    }

    /** The latest PARTING. */
    private static final class Parting {
        private static final int MOST = 16;

        private final Matching matching = new Matching();
        private final int[] inLog = new int[MOST];
        private final int[] follows = new int[MOST];
        private final int[] track = new int[MOST];
        private int many = 0;
        private int tracks = 0;
        private long together = 0;

        long together() {
            return together;
        }

        int tellOf(int k, int what) {
            if (k < 0 || k >= many || k >= MOST) {
                return NONE;
            }
            switch (what) {
                case 0:
                    return inLog[k];
                case 1:
                    return follows[k];
                case 2:
                    return track[k];
                default:
                    return NONE;
            }
        }

        int make(Log log, int ship, int speed) {
            int found = log.howMany(POSITION, ship);
            if (found < 1 || found > MOST) {
                return NONE;
            }
            gather(log, ship);
            matching.begin(many);
            for (int k = 0; k < many; k++) {
                for (int j = 0; j < k; j++) {
                    allowIfNear(log, k, j, speed);
                }
            }
            matching.solve();
            drawTracks();
            return tracks;
        }

        private void gather(Log log, int ship) {
            many = 0;
            int entries = log.entries();
            for (int k = 0; k < entries; k++) {
                if (many < MOST && log.isOf(k, POSITION, ship)) {
                    insert(log, k);
                }
            }
        }

        private void insert(Log log, int k) {
            int at = many;
            while (at > 0 && isAhead(log, k, inLog[at - 1])) {
                inLog[at] = inLog[at - 1];
                at--;
            }
            inLog[at] = k;
            many++;
        }

        private static boolean isAhead(Log log, int k, int other) {
            for (int what = Log.SECOND; what <= Log.Y; what++) {
                int order = Integer.compare(log.cell(k, what), log.cell(other, what));
                if (order != 0) {
                    return order < 0;
                }
            }
            return false;
        }

        private void allowIfNear(Log log, int k, int j, int speed) {
            int one = inLog[k];
            int other = inLog[j];
            long seconds = log.cell(one, Log.SECOND) - log.cell(other, Log.SECOND);
            long across = log.cell(one, Log.X) - log.cell(other, Log.X);
            long along = log.cell(one, Log.Y) - log.cell(other, Log.Y);
            long square = across * across + along * along;
            long reach = seconds * speed;
            if (seconds > 0 && square <= reach * reach) {
                matching.allow(k, j, square);
            }
        }

        private void drawTracks() {
            tracks = 0;
            together = 0;
            for (int k = 0; k < many; k++) {
                int ahead = matching.followedBy(k);
                follows[k] = ahead;
                if (ahead >= 0 && ahead < k) {
                    track[k] = track[ahead];
                    together += matching.squareOf(k, ahead);
                } else {
                    track[k] = tracks;
                    tracks++;
                }
            }
        }
    }

    /**
     * Who follows whom, as an assignment of least price. Row k below n is POSITION k, column j
     * below n is POSITION j as the one that is followed; the n columns from n on mean that none is
     * followed, at a price above all squares together, so that the fewest take them. Duals of rows
     * and columns are kept: an assignment of all columns is a least one just if each row's column
     * is tight (its price is the sum of both duals). So the first of the least ones is found by
     * changes among tight columns alone, without a second search for least prices.
     */
    private static final class Matching {
        private static final int MOST = Parting.MOST;
        private static final int MOST_COLUMNS = 2 * MOST;
        private static final long ALONE = 1L << 40;
        private static final long FORBIDDEN = 1L << 50;
        private static final long FAR = 1L << 60;

        private final long[] squares = new long[MOST * MOST];
        private final long[] rowDual = new long[MOST_COLUMNS];
        private final long[] columnDual = new long[MOST_COLUMNS];
        private final long[] slack = new long[MOST_COLUMNS];
        private final int[] columnOf = new int[MOST_COLUMNS];
        private final int[] rowOf = new int[MOST_COLUMNS];
        private final int[] from = new int[MOST_COLUMNS];
        private final int[] queue = new int[MOST_COLUMNS];
        private final boolean[] seen = new boolean[MOST_COLUMNS];
        private int n = 0;
        private int columns = 0;

        void begin(int positions) {
            n = Math.max(0, Math.min(positions, MOST));
            columns = 2 * n;
            for (int k = 0; k < MOST * MOST; k++) {
                squares[k] = FORBIDDEN;
            }
            for (int c = 0; c < columns; c++) {
                rowDual[c] = 0;
                columnDual[c] = 0;
                columnOf[c] = NONE;
                rowOf[c] = NONE;
            }
        }

        void allow(int row, int column, long square) {
            if (isPosition(row) && isPosition(column)) {
                squares[row * MOST + column] = square;
            }
        }

        long squareOf(int row, int column) {
            return isPosition(row) && isPosition(column) ? squares[row * MOST + column] : 0;
        }

        int followedBy(int row) {
            return isPosition(row) && isPosition(columnOf[row]) ? columnOf[row] : NONE;
        }

        void solve() {
            for (int row = 0; row < n; row++) {
                admit(row);
            }
            fillSpareRows();
            for (int row = 0; row < n; row++) {
                settle(row);
            }
        }

        private boolean isPosition(int k) {
            return k >= 0 && k < n;
        }

        private boolean isColumn(int c) {
            return c >= 0 && c < columns;
        }

        /** Rows from n on are spare ones: they hold what no POSITION takes, for nothing. */
        private long price(int row, int column) {
            if (row >= n) {
                return 0;
            }
            return column < n ? squares[row * MOST + column] : ALONE;
        }

        private boolean isTight(int row, int column) {
            long price = price(row, column);
            return price < FORBIDDEN && price == rowDual[row] + columnDual[column];
        }

        /** One row more gets a column, by the cheapest chain of rows that move on. */
        private void admit(int row) {
            for (int c = 0; c < columns; c++) {
                slack[c] = FAR;
                from[c] = NONE;
                seen[c] = false;
            }
            int reached = row;
            int last = NONE;
            for (int step = 0; step < columns; step++) {
                int nearest = lookFrom(reached, last);
                if (!isColumn(nearest)) {
                    return;
                }
                shiftDuals(row, slack[nearest]);
                seen[nearest] = true;
                reached = rowOf[nearest];
                last = nearest;
                if (!isPosition(reached)) {
                    moveAlong(row, nearest);
                    return;
                }
            }
        }

        private int lookFrom(int row, int last) {
            int nearest = NONE;
            for (int c = 0; c < columns; c++) {
                if (seen[c]) {
                    continue;
                }
                long left = price(row, c) - rowDual[row] - columnDual[c];
                if (left < slack[c]) {
                    slack[c] = left;
                    from[c] = last;
                }
                if (nearest == NONE || slack[c] < slack[nearest]) {
                    nearest = c;
                }
            }
            return nearest;
        }

        private void shiftDuals(int row, long by) {
            rowDual[row] += by;
            for (int c = 0; c < columns; c++) {
                if (!seen[c]) {
                    slack[c] -= by;
                } else if (isPosition(rowOf[c])) {
                    columnDual[c] -= by;
                    rowDual[rowOf[c]] += by;
                }
            }
        }

        /** Each row of the chain takes the column that it led to, and the new row the first. */
        private void moveAlong(int row, int end) {
            int c = end;
            for (int step = 0; step < columns && isColumn(from[c]); step++) {
                place(rowOf[from[c]], c);
                c = from[c];
            }
            place(row, c);
        }

        private void place(int row, int column) {
            if (isColumn(row) && isColumn(column)) {
                rowOf[column] = row;
                columnOf[row] = column;
            }
        }

        private void fillSpareRows() {
            int spare = n;
            for (int c = 0; c < columns; c++) {
                if (rowOf[c] == NONE) {
                    place(spare, c);
                    spare++;
                }
            }
        }

        /** The row takes the first column that some least assignment has; rows ahead stay. */
        private void settle(int row) {
            for (int c = 0; c < n; c++) {
                if (columnOf[row] == c) {
                    return;
                }
                if (rowOf[c] > row && isTight(row, c) && giveColumn(row, c)) {
                    return;
                }
            }
        }

        /** Whether the rows behind can make up for it, by tight columns, that this row takes c. */
        private boolean giveColumn(int row, int c) {
            int left = columnOf[row];
            for (int k = 0; k < columns; k++) {
                from[k] = NONE;
                seen[k] = false;
            }
            seen[c] = true;
            queue[0] = c;
            int queued = 1;
            for (int k = 0; k < queued && k < columns; k++) {
                queued = lookOnFrom(row, queue[k], queued);
                if (isColumn(left) && seen[left]) {
                    moveAlong(row, left);
                    return true;
                }
            }
            return false;
        }

        /** The row that leaves a column may come to those that are tight for it and not settled. */
        private int lookOnFrom(int settling, int leaving, int queued) {
            int end = queued;
            int row = isColumn(leaving) ? rowOf[leaving] : NONE;
            if (!isColumn(row)) {
                return end;
            }
            for (int c = 0; c < columns; c++) {
                if (!seen[c] && rowOf[c] >= settling && isTight(row, c) && end < MOST_COLUMNS) {
                    seen[c] = true;
                    from[c] = leaving;
                    queue[end] = c;
                    end++;
                }
            }
            return end;
        }
    }

    /** The latest MEETING. */
    private static final class Meeting {
        private static final int AHEAD = 3600;

        private int second = NONE;

        int second() {
            return second;
        }

        long find(Log log, int mine, int theirs, int now) {
            long across = along(log, mine, Log.X, Log.U, now) - along(log, theirs, Log.X, Log.U, now);
            long up = along(log, mine, Log.Y, Log.V, now) - along(log, theirs, Log.Y, Log.V, now);
            long acrossBy = log.cell(mine, Log.U) - log.cell(theirs, Log.U);
            long upBy = log.cell(mine, Log.V) - log.cell(theirs, Log.V);
            long after = nearestAfter(across, up, acrossBy, upBy);
            long least = square(across + acrossBy * after, up + upBy * after);
            if (after < AHEAD) {
                long next = square(across + acrossBy * (after + 1), up + upBy * (after + 1));
                if (next < least) {
                    least = next;
                    after++;
                }
            }
            second = now + (int) after;
            return least;
        }

        /**
         * The square of the distance falls and then rises: the least of whole SECONDS is this one
         * or the next.
         */
        private static long nearestAfter(long across, long up, long acrossBy, long upBy) {
            long by = square(acrossBy, upBy);
            if (by == 0) {
                return 0;
            }
            long at = Math.floorDiv(-(across * acrossBy + up * upBy), by);
            return Math.max(0L, Math.min(at, (long) AHEAD));
        }

        private static long along(Log log, int k, int place, int speed, int now) {
            long gone = now - log.cell(k, Log.SECOND);
            return log.cell(k, place) + gone * log.cell(k, speed);
        }

        private static long square(long across, long up) {
            return across * across + up * up;
        }
    }
}
