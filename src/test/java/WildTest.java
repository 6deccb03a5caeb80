import java.util.NoSuchElementException;
import java.util.Random;
import java.util.function.IntSupplier;

/** Any arguments in any state: nothing but the document's exception comes out, and it changes nothing. */
public final class WildTest {
    private static final int[] WILD = {
        Integer.MIN_VALUE, Integer.MIN_VALUE + 1, -100001, -2, -1, 0, 1, 2, 3, 4, 5, 6, 7, 8, 9, 15, 16, 19, 20, 21, 100,
        199, 200, 201, 399, 400, 1000, 1001, 65535, 100000, 1048575, 1048576, 1 << 29, 1 << 30, Integer.MAX_VALUE - 1,
        Integer.MAX_VALUE,
    };

    private final Random random;
    private final ShipVoices x = new ShipVoices();
    private final Wire wire = new Wire(x);

    private WildTest(int run) {
        random = new Random(run);
    }

    public static void main(String[] args) {
        for (int run = 0; run < 200; run++) {
            new WildTest(run).go();
        }
        Due.finish();
    }

    private void go() {
        int messages = random.nextInt(60);
        for (int k = 0; k < messages; k++) {
            wire.send(k & 1, Wire.position(k % 3, k, -k, k, -k), Wire.piece(k % 3, 0, k % 2, 2, k), Wire.claim(k % 3, 1, 7));
            x.wait(k % 2);
        }
        for (int k = 0; k < 2000; k++) {
            call();
        }
    }

    private int wild() {
        return random.nextInt(4) == 0 ? random.nextInt() : WILD[random.nextInt(WILD.length)];
    }

    private void call() {
        int a = wild();
        int b = wild();
        switch (random.nextInt(19)) {
            case 0:
                x.feed(a, b, wild(), wild(), wild());
                break;
            case 1:
                x.end(a);
                break;
            case 2:
                x.hear(a);
                break;
            case 3:
                x.wait(a);
                break;
            case 4:
                x.build(random.nextInt(7), a, b, wild(), wild(), wild());
                break;
            case 5:
                quiet("octet", () -> x.octet(a));
                break;
            case 6:
                quiet("message", () -> x.message(a, b));
                break;
            case 7:
                x.part(random.nextInt(3), a);
                break;
            case 8:
                x.part(a, b);
                break;
            case 9:
                x.parted(a, b);
                break;
            case 10:
                quiet("clash", () -> x.clash(a, b));
                break;
            case 11:
                quiet("text", () -> x.text(a, b));
                break;
            case 12:
                quiet("letter", () -> x.letter(a, b));
                break;
            case 13:
                x.meet(a, b);
                break;
            case 14:
                x.meet(random.nextInt(3), random.nextInt(3));
                break;
            case 15:
                x.size(a);
                break;
            case 16:
                x.count(a);
                break;
            case 17:
                x.build(a, b, wild(), wild(), wild(), wild());
                break;
            default:
                x.when();
        }
    }

    private void quiet(String call, IntSupplier supplier) {
        String before = state();
        try {
            supplier.getAsInt();
        } catch (NoSuchElementException e) {
            Due.same(call + " threw: the state behind it", state(), before);
        }
    }

    private String state() {
        StringBuilder s = new StringBuilder();
        for (int what = 0; what < 9; what++) {
            s.append(x.count(what)).append(' ');
        }
        return s.append(x.cost()).append(' ').append(x.clashes()).append(' ').append(x.texts()).append(' ')
            .append(x.when()).append(' ').append(x.parted(0, 0)).toString();
    }
}
