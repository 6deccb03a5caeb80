/** Terms 3, CLASHES, and promises 12 (clashes), 13 (clash): each sentence that names a boundary case. */
public final class EdgeClashesTest {
    private static final int MOST = Integer.MAX_VALUE;
    private static final int LEAST = Integer.MIN_VALUE;

    public static void main(String[] args) {
        unlikeShipsOneSlot();
        holds();
        aheadInTheLog();
        eachHoldsForItself();
        order();
        howMany();
        most();
        which();
        none();
        Due.finish();
    }

    private static void pairs(ShipVoices x, int[]... due) {
        Due.is("clashes()", x.clashes(), due.length);
        for (int k = 0; k < due.length; k++) {
            Due.is("clash(" + k + ", 0)", x.clash(k, 0), due[k][0]);
            Due.is("clash(" + k + ", 1)", x.clash(k, 1), due[k][1]);
        }
    }

    private static int[] pair(int... pair) {
        return pair;
    }

    private static void unlikeShipsOneSlot() {
        Due.about("Terms 3", "CLASHES: two CLAIMS of unlike SHIPS and one SLOT in the LOG,");
        ShipVoices x = new ShipVoices();
        Wire wire = new Wire(x);
        wire.sendAll(0, Wire.claim(7, 5, 7), Wire.claim(7, 5, 7), Wire.claim(8, 4, 7), Wire.claim(8, 6, 7));
        Due.is("one SHIP, or other SLOTS", x.clashes(), 0);
        wire.sendAll(0, Wire.position(8, 5, 7, 0, 0), Wire.piece(8, 5, 0, 2, 0), Wire.base(8, 5), Wire.claim(8, 2250, 7), Wire.claim(9, 2250, 7));
        wire.sendAll(0, Wire.claim(9, 5, 0), Wire.claim(9, 5, 1) + "0");
        Due.is("other KINDS and STRANGE ones", x.clashes(), 0);
        wire.sendAll(1, Wire.claim(8, 5, 1));
        pairs(x, pair(11, 0), pair(11, 1));
        ShipVoices z = new ShipVoices();
        new Wire(z).sendAll(0, Wire.claim(0, 0, 1), Wire.claim(1048575, 2249, 1), Wire.claim(1048575, 0, 1), Wire.claim(0, 2249, 1));
        pairs(z, pair(2, 0), pair(3, 1));
    }

    private static void holds() {
        Due.about("Terms 3", "one of which is made (at its SECOND) while the other one, made earlier or ahead of it in the LOG, still holds: "
            + "for its MINUTES of 60 SECONDS from its SECOND on.");
        for (int minutes = 1; minutes <= 7; minutes++) {
            int[] later = {0, 1, 59, 60 * minutes - 1, 60 * minutes, 60 * minutes + 1, 100000};
            for (int seconds : later) {
                ShipVoices x = new ShipVoices();
                Wire wire = new Wire(x);
                x.wait(minutes * 13);
                wire.send(0, Wire.claim(7, 5, minutes));
                x.wait(seconds);
                wire.send(1, Wire.claim(8, 5, 8 - minutes));
                Due.is(minutes + " MINUTES, " + seconds + " SECONDS later", x.clashes(), seconds < 60 * minutes ? 1 : 0);
            }
        }
    }

    private static void aheadInTheLog() {
        Due.about("Terms 3", "made earlier or ahead of it in the LOG, still holds:");
        ShipVoices x = new ShipVoices();
        Wire wire = new Wire(x);
        wire.sendAll(0, Wire.claim(7, 5, 1), Wire.claim(8, 5, 7));
        pairs(x, pair(1, 0));
        x.wait(60);
        wire.send(0, Wire.claim(7, 5, 1));
        pairs(x, pair(1, 0), pair(2, 1));
    }

    private static void eachHoldsForItself() {
        Due.about("Terms 3", "for its MINUTES of 60 SECONDS from its SECOND on.");
        ShipVoices x = new ShipVoices();
        Wire wire = new Wire(x);
        wire.send(0, Wire.claim(7, 5, 7));
        x.wait(30);
        wire.send(0, Wire.claim(7, 5, 1));
        x.wait(60);
        wire.send(0, Wire.claim(8, 5, 1));
        pairs(x, pair(2, 0));
        x.wait(329);
        wire.send(0, Wire.claim(9, 5, 1));
        pairs(x, pair(2, 0), pair(3, 0));
        x.wait(1);
        wire.send(0, Wire.claim(8, 5, 1));
        pairs(x, pair(2, 0), pair(3, 0), pair(4, 3));
        x.wait(100000);
        pairs(x, pair(2, 0), pair(3, 0), pair(4, 3));
    }

    private static void order() {
        Due.about("Terms 3", "In order: by the later CLAIM, then by the earlier one, as they stand in the LOG.");
        ShipVoices x = new ShipVoices();
        Wire wire = new Wire(x);
        wire.sendAll(0, Wire.claim(1, 5, 7), Wire.claim(2, 6, 7), Wire.base(1, 1), Wire.claim(3, 6, 7), Wire.claim(4, 5, 7));
        wire.sendAll(1, Wire.claim(5, 6, 7), Wire.claim(6, 5, 7));
        pairs(x, pair(3, 1), pair(4, 0), pair(5, 1), pair(5, 3), pair(6, 0), pair(6, 4));
    }

    private static void howMany() {
        Due.about("Promise 12", "How many CLASHES there are.");
        ShipVoices x = new ShipVoices();
        Wire wire = new Wire(x);
        Due.is("of an empty LOG", x.clashes(), 0);
        wire.send(0, Wire.claim(1, 5, 7));
        Due.is("of one CLAIM", x.clashes(), 0);
        wire.send(0, Wire.claim(2, 5, 7));
        Due.is("of two", x.clashes(), 1);
        wire.send(0, Wire.claim(3, 5, 7));
        Due.is("of three", x.clashes(), 3);
    }

    private static void most() {
        Due.about("Promise 12", "How many CLASHES there are.");
        ShipVoices x = new ShipVoices();
        Wire wire = new Wire(x);
        String[] all = new String[201];
        for (int k = 0; k < 201; k++) {
            all[k] = Wire.claim(k, 2249, 1);
        }
        Due.is("all are READ", wire.sendAll(0, all), 201);
        Due.is("each of 200 with each", x.clashes(), 19900);
        Due.is("the first", x.clash(0, 0), 1);
        Due.is("the last", x.clash(19899, 0), 199);
        Due.is("the last", x.clash(19899, 1), 198);
        Due.is("the first with the last CLAIM", x.clash(19701, 0), 199);
        Due.is("the first with the last CLAIM", x.clash(19701, 1), 0);
        Due.is("the one ahead of it", x.clash(19700, 0), 198);
        Due.is("the one ahead of it", x.clash(19700, 1), 197);
        Due.none("clash(19900, 0)", () -> x.clash(19900, 0));
        Due.none("clash(19900, 1)", () -> x.clash(19900, 1));
    }

    private static void which() {
        Due.about("Promise 13", "CLASH k: the later CLAIM's number in the LOG (what 0), the earlier one's (1).");
        ShipVoices x = new ShipVoices();
        new Wire(x).sendAll(0, "01010101", Wire.claim(1, 5, 7), Wire.base(1, 1), Wire.claim(2, 5, 7));
        Due.is("what 0", x.clash(0, 0), 3);
        Due.is("what 1", x.clash(0, 1), 1);
    }

    private static void none() {
        Due.about("Promise 13", "NoSuchElementException: there is none such, or another what.");
        ShipVoices x = new ShipVoices();
        Due.none("of an empty LOG", () -> x.clash(0, 0));
        Due.none("of an empty LOG", () -> x.clash(0, 1));
        Wire wire = new Wire(x);
        wire.send(0, Wire.claim(1, 5, 7));
        Due.none("of one CLAIM", () -> x.clash(0, 0));
        wire.send(0, Wire.claim(2, 5, 7));
        int[] wild = {-1, 1, 2, LEAST, MOST};
        for (int k : wild) {
            Due.none("clash(" + k + ", 0)", () -> x.clash(k, 0));
            Due.none("clash(" + k + ", 1)", () -> x.clash(k, 1));
        }
        int[] others = {-1, 2, 3, LEAST, MOST};
        for (int what : others) {
            Due.none("clash(0, " + what + ")", () -> x.clash(0, what));
        }
        Due.is("clash(0, 0)", x.clash(0, 0), 1);
    }
}
