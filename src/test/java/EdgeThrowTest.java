import java.util.function.IntSupplier;

/** Terms: a call that throws changes nothing, and neither does one that is refused. */
public final class EdgeThrowTest {
    private static final int MOST = Integer.MAX_VALUE;
    private static final int LEAST = Integer.MIN_VALUE;

    private final ShipVoices x = new ShipVoices();

    public static void main(String[] args) {
        Due.about("Terms 3", "A call that throws changes nothing.");
        EdgeThrowTest fresh = new EdgeThrowTest();
        fresh.throwing();
        EdgeThrowTest full = new EdgeThrowTest();
        full.fill();
        full.throwing();
        full.refusing();
        full.goingOn();
        Due.finish();
    }

    private void fill() {
        Wire wire = new Wire(x);
        wire.sendAll(0, Wire.position(7, 0, 0, 1, 0), Wire.position(8, 90, 3, 0, 0), Wire.fixed(7, 1, 2, 3), Wire.claim(7, 5, 7), Wire.claim(8, 5, 7));
        x.wait(3);
        wire.sendAll(1, Wire.position(7, 4, 0, 1, 0), Wire.piece(7, 1, 1, 2, 99), Wire.piece(7, 1, 0, 2, 98), "01010101");
        wire.hear(1, "0".repeat(40) + Wire.MARK + "01010101");
        x.part(7, 2);
        x.meet(7, 8);
        x.build(1, 7, 1, 2, 3, 4);
        x.feed(1, 2, 3, 4, 5);
        x.end(11);
    }

    private void throwing() {
        String before = state();
        int[] wild = {-1, LEAST, MOST, 200, 99};
        for (int k : wild) {
            still("octet(" + k + ")", () -> x.octet(k), before);
            still("message(" + k + ", 0)", () -> x.message(k, 0), before);
            still("message(0, " + k + ")", () -> x.message(0, k), before);
            still("clash(" + k + ", 0)", () -> x.clash(k, 0), before);
            still("clash(0, " + k + ")", () -> x.clash(0, k), before);
            still("text(" + k + ", 0)", () -> x.text(k, 0), before);
            still("text(0, " + k + ")", () -> x.text(0, k), before);
            still("letter(" + k + ", 0)", () -> x.letter(k, 0), before);
            still("letter(0, " + k + ")", () -> x.letter(0, k), before);
        }
    }

    private void still(String call, IntSupplier supplier, String before) {
        Due.none(call, supplier::getAsInt);
        Due.same("behind " + call, state(), before);
    }

    private void refusing() {
        String before = state();
        Due.isFalse("end(12)", x.end(12));
        Due.is("hear(2)", x.hear(2), -1);
        Due.isFalse("wait(-1)", x.wait(-1));
        Due.is("build", x.build(1, 7, 32768, 0, 0, 0), -1);
        Due.is("part", x.part(7, 1001), -1);
        Due.is("part", x.part(9, 1), -1);
        Due.is("meet", x.meet(7, 7), -1);
        Due.is("meet", x.meet(7, 9), -1);
        Due.same("behind them", state(), before);
    }

    /** What a call that throws could have spoiled unseen: the tape, and the BITS put. */
    private void goingOn() {
        Due.is("the tape is as it was fed", x.end(11) ? 1 : 0, 1);
        Due.is("put on 1", x.count(8), 8);
        x.end(0);
        Due.is("heard", x.hear(1), 0);
        Due.is("put on 1", x.count(8), 8);
        Due.is("part", x.part(7, 2), 1);
        Due.is("cost", x.cost(), 16);
    }

    /** All that can be asked. */
    private String state() {
        StringBuilder s = new StringBuilder();
        for (int what = 0; what < 9; what++) {
            s.append(x.count(what)).append(' ');
        }
        for (int k = 0; k < x.count(2); k++) {
            for (int what = 0; what < 8; what++) {
                s.append(x.message(k, what)).append(' ');
            }
        }
        for (int k = 0; k < x.count(6); k++) {
            s.append(x.octet(k)).append(' ');
        }
        for (int k = 0; k < x.clashes(); k++) {
            s.append(x.clash(k, 0)).append('/').append(x.clash(k, 1)).append(' ');
        }
        for (int k = 0; k < x.texts(); k++) {
            for (int what = 0; what < 4; what++) {
                s.append(x.text(k, what)).append(' ');
            }
            for (int i = 0; i < x.text(k, 2); i++) {
                s.append(x.letter(k, i)).append(' ');
            }
        }
        for (int k = 0; k < 16; k++) {
            s.append(x.parted(k, 0)).append('/').append(x.parted(k, 1)).append('/').append(x.parted(k, 2)).append(' ');
        }
        return s.append(x.cost()).append(' ').append(x.when()).append(' ').append(x.size(7)).toString();
    }
}
