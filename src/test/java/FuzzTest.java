import java.util.ArrayList;
import java.util.List;
import java.util.NoSuchElementException;
import java.util.Random;
import java.util.function.LongSupplier;

/** Runs of drawn calls (always the same ones), each answered by ShipVoices and by PlainVoices. */
public final class FuzzTest {
    private static final int RUNS = 400;
    private static final int CALLS = 500;

    private final Random random;
    private final ShipVoices x = new ShipVoices();
    private final PlainVoices y = new PlainVoices();
    private final List<String> calls = new ArrayList<>();
    private final int style;

    private FuzzTest(int run) {
        random = new Random(run);
        style = run % 5;
    }

    public static void main(String[] args) {
        for (int run = 0; run < RUNS && !Due.anyWrong(); run++) {
            new FuzzTest(run).go(run);
        }
        Due.finish();
    }

    private void go(int run) {
        while (calls.size() < CALLS && !Due.anyWrong()) {
            step();
        }
        if (Due.anyWrong()) {
            System.out.println("in run " + run + ", behind " + calls);
        }
    }

    private int below(int n) {
        return random.nextInt(n);
    }

    private void ask(String call, LongSupplier fast, LongSupplier plain) {
        calls.add(call);
        Due.same(call, answer(fast), answer(plain));
    }

    private static String answer(LongSupplier supplier) {
        try {
            return Long.toString(supplier.getAsLong());
        } catch (NoSuchElementException e) {
            return "NoSuchElementException";
        }
    }

    private void step() {
        int draw = below(10);
        if (style == 0 && draw < 6) {
            noise();
        } else if (draw < 5) {
            sendSome();
        } else if (draw == 5) {
            waitSome();
        } else {
            look();
        }
    }

    private void feed(int a, int b, int c, int d, int e) {
        ask("feed(" + a + ", " + b + ", " + c + ", " + d + ", " + e + ")",
            () -> x.feed(a, b, c, d, e), () -> y.feed(a, b, c, d, e));
    }

    private void end(int n) {
        ask("end(" + n + ")", () -> x.end(n) ? 1 : 0, () -> y.end(n) ? 1 : 0);
    }

    private void hear(int channel) {
        ask("hear(" + channel + ")", () -> x.hear(channel), () -> y.hear(channel));
    }

    /** Levels without sense, some of them with many ones or many zeros. */
    private void noise() {
        int many = 1 + below(3);
        for (int k = 0; k < many; k++) {
            int mask = below(3) == 0 ? 0x55555555 : 0;
            feed(random.nextInt() ^ mask, random.nextInt(), 0x55555555 ^ 1 << below(32), random.nextInt() & random.nextInt(),
                below(2) == 0 ? 0x55555555 : random.nextInt());
        }
        if (below(2) == 0) {
            end(below(20 * many + 2));
        }
        hear(below(2));
        ask("count(4)", () -> x.count(4), () -> y.count(4));
        int what = 7 + below(2);
        ask("count(" + what + ")", () -> x.count(what), () -> y.count(what));
    }

    private int ship() {
        return style == 1 ? 7 : 1 + below(3);
    }

    private String message() {
        int spread = 1 + below(12);
        switch (style == 1 ? 1 : style == 2 ? 4 : style == 3 ? 5 : 1 + below(5)) {
            case 1:
                return position(spread);
            case 2:
                return Wire.fixed(ship(), Wire.letters(below(27), below(28), 26), Wire.letters(0, 1, below(27)), below(256));
            case 3:
                return Wire.base(ship(), random.nextInt() & Integer.MAX_VALUE);
            case 4:
                return Wire.piece(ship(), below(2), below(4), 1 + below(4), Wire.letters(below(27), below(27), below(27), 26));
            default:
                return Wire.claim(ship(), below(20) == 0 ? 2249 + below(2) : below(3), below(8));
        }
    }

    /** Mostly near ones; some at the corners, some anywhere, so that squares and reaches grow wide, too. */
    private String position(int spread) {
        switch (below(8)) {
            case 0:
                return Wire.position(ship(), end16(), end16(), end8(), end8());
            case 1:
                return Wire.position(ship(), (short) random.nextInt(), (short) random.nextInt(),
                    (byte) random.nextInt(), (byte) random.nextInt());
            default:
                return Wire.position(ship(), below(spread) - spread / 2, below(spread), below(5) - 2, below(256) - 128);
        }
    }

    private int end16() {
        return below(2) == 0 ? -32768 : 32767;
    }

    private int end8() {
        return below(2) == 0 ? -128 : 127;
    }

    private String bits() {
        StringBuilder bits = new StringBuilder("0".repeat(below(3)));
        int many = 1 + below(style == 4 ? 5 : 2);
        for (int k = 0; k < many; k++) {
            String message = message();
            if (below(20) == 0) {
                message = message.substring(below(message.length() + 1));
            }
            String frame = Wire.frame(message);
            if (below(15) == 0) {
                int turn = below(frame.length());
                frame = frame.substring(0, turn) + (frame.charAt(turn) == '0' ? "1" : "0") + frame.substring(turn + 1);
            }
            // A mark may end one frame and begin the next.
            bits.append(k > 0 && below(3) == 0 ? frame.substring(8) : frame);
        }
        if (below(30) == 0) {
            bits.append("10".repeat(100 + below(80))).append(Wire.MARK);
        }
        return bits.toString();
    }

    private int level = 0;

    private void sendSome() {
        String bits = bits();
        List<Integer> words = new ArrayList<>();
        int bytes = (bits.length() + 7) / 8;
        int word = 0;
        for (int k = 0; k < (bytes + 19) / 20 * 160; k++) {
            level = k < bits.length() && bits.charAt(k) == '1' ? level : 1 - level;
            word = word << 1 | level;
            if (k % 32 == 31) {
                words.add(word);
            }
        }
        for (int k = 0; k + 5 <= words.size(); k += 5) {
            feed(words.get(k), words.get(k + 1), words.get(k + 2), words.get(k + 3), words.get(k + 4));
        }
        end(bytes);
        hear(below(10) == 0 ? 1 : 0);
    }

    private void waitSome() {
        int[] some = {0, 1, 1, 1, 2, 3, 10, 59, 60, 100, 300, 3600, 100000, 100001, -1};
        int seconds = some[style == 1 ? below(8) : below(some.length)];
        ask("wait(" + seconds + ")", () -> x.wait(seconds) ? 1 : 0, () -> y.wait(seconds) ? 1 : 0);
    }

    private void look() {
        int k = below(20) - 1;
        int w = below(10) - 1;
        switch (below(14)) {
            case 0:
                ask("message(" + k + ", " + w + ")", () -> x.message(k, w), () -> y.message(k, w));
                break;
            case 1:
            case 2:
                part();
                break;
            case 3:
                ask("clashes()", x::clashes, y::clashes);
                break;
            case 4:
                int far = below(Math.max(1, x.clashes() + 2));
                ask("clash(" + far + ", " + (w & 1) + ")", () -> x.clash(far, w & 1), () -> y.clash(far, w & 1));
                ask("clash(" + k + ", " + w + ")", () -> x.clash(k, w), () -> y.clash(k, w));
                break;
            case 5:
                ask("texts()", x::texts, y::texts);
                break;
            case 6:
                ask("text(" + k + ", " + w + ")", () -> x.text(k, w), () -> y.text(k, w));
                break;
            case 7:
                int t = below(x.texts() + 1);
                ask("letter(" + t + ", " + k + ")", () -> x.letter(t, k), () -> y.letter(t, k));
                break;
            case 8:
                int one = below(5);
                int other = below(5);
                ask("meet(" + one + ", " + other + ")", () -> x.meet(one, other), () -> y.meet(one, other));
                ask("when()", x::when, y::when);
                break;
            case 9:
                ask("size(" + w + ")", () -> x.size(w), () -> y.size(w));
                break;
            case 10:
                build();
                break;
            case 11:
                ask("octet(" + k + ")", () -> x.octet(k), () -> y.octet(k));
                break;
            default:
                ask("count(" + w + ")", () -> x.count(w), () -> y.count(w));
        }
    }

    private void part() {
        int ship = ship();
        int[] speeds = {0, 1, 1, 2, 3, 5, 1000, 1001};
        int speed = speeds[below(speeds.length)];
        ask("part(" + ship + ", " + speed + ")", () -> x.part(ship, speed), () -> y.part(ship, speed));
        ask("cost()", x::cost, y::cost);
        for (int k = -1; k <= 16; k++) {
            int at = k;
            Due.is("follows " + at, x.parted(at, 1), y.parted(at, 1));
            Due.is("in the log " + at, x.parted(at, 0), y.parted(at, 0));
            Due.is("track " + at, x.parted(at, 2), y.parted(at, 2));
        }
        Due.is("parted(0, 3)", x.parted(0, 3), -1);
    }

    private void build() {
        int kind = below(8) - 1;
        int ship = below(10) == 0 ? 1048574 + below(3) : below(1048576);
        int[] n = new int[4];
        for (int k = 0; k < 4; k++) {
            int[] wide = {7, 8, 127, 255, 511, 1023, 2250, 32767, 65535, Integer.MAX_VALUE, -1};
            n[k] = random.nextInt() & wide[below(wide.length)];
            n[k] = below(3) == 0 ? n[k] - 100 : n[k];
        }
        if (kind == 4 && below(4) > 0) {
            n[0] = 64 * below(8) + 8 * below(3) + 2 + below(4);
            n[1] = Wire.letters(below(27), below(28));
            n[2] = Wire.letters(below(28), below(27));
        }
        String call = "build(" + kind + ", " + ship + ", " + n[0] + ", " + n[1] + ", " + n[2] + ", " + n[3] + ")";
        ask(call, () -> x.build(kind, ship, n[0], n[1], n[2], n[3]), () -> y.build(kind, ship, n[0], n[1], n[2], n[3]));
        for (int k = 0; k <= 17; k++) {
            int at = k;
            Due.same("octet(" + at + ")", answer(() -> x.octet(at)), answer(() -> y.octet(at)));
        }
    }
}
