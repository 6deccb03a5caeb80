/** Promises 12 (clashes) and 13 (clash). */
public final class ClashTest {
    public static void main(String[] args) {
        holding();
        order();
        most();
        Due.finish();
    }

    private static void holding() {
        for (int minutes = 1; minutes <= 7; minutes++) {
            ShipVoices x = new ShipVoices();
            Wire wire = new Wire(x);
            wire.send(0, Wire.claim(7, 10, minutes));
            x.wait(60 * minutes - 1);
            Due.is("ahead of the clash", x.clashes(), 0);
            wire.send(1, Wire.claim(8, 10, 1));
            Due.is("in the last second", x.clashes(), 1);
            x.wait(1);
            wire.send(1, Wire.claim(9, 10, 1));
            Due.is("with the second claim alone", x.clashes(), 2);
            Due.is("later", x.clash(1, 0), 2);
            Due.is("earlier", x.clash(1, 1), 1);
        }
    }

    private static void order() {
        ShipVoices x = new ShipVoices();
        Wire wire = new Wire(x);
        wire.send(0, Wire.claim(7, 10, 1), Wire.claim(7, 11, 7), Wire.claim(8, 12, 7));
        Due.is("unlike slots, one ship", x.clashes(), 0);
        wire.send(0, Wire.claim(7, 10, 7), Wire.position(7, 0, 0, 0, 0), Wire.claim(9, 10, 1), Wire.claim(8, 11, 1));
        int[][] due = {{5, 0}, {5, 3}, {6, 1}};
        pairs(x, due);
        Due.none("clash(3, 0)", () -> x.clash(3, 0));
        Due.none("clash(-1, 0)", () -> x.clash(-1, 0));
        Due.none("clash(0, 2)", () -> x.clash(0, 2));
        Due.none("clash(0, -1)", () -> x.clash(0, -1));
        x.wait(60);
        wire.send(1, Wire.claim(9, 10, 1), Wire.claim(7, 12, 1));
        pairs(x, new int[][] {{5, 0}, {5, 3}, {6, 1}, {7, 3}, {8, 2}});
        x.wait(100000);
        pairs(x, new int[][] {{5, 0}, {5, 3}, {6, 1}, {7, 3}, {8, 2}});
    }

    private static void pairs(ShipVoices x, int[][] due) {
        Due.is("clashes()", x.clashes(), due.length);
        for (int k = 0; k < due.length; k++) {
            Due.is("clash(" + k + ", 0)", x.clash(k, 0), due[k][0]);
            Due.is("clash(" + k + ", 1)", x.clash(k, 1), due[k][1]);
        }
    }

    private static void most() {
        ShipVoices x = new ShipVoices();
        Wire wire = new Wire(x);
        for (int k = 0; k < 201; k++) {
            wire.send(k & 1, Wire.claim(k, 0, 7));
        }
        Due.is("each with each", x.clashes(), 199 * 200 / 2);
        Due.is("the last", x.clash(19899, 0), 199);
        Due.is("the last", x.clash(19899, 1), 198);
        Due.is("the first of the last", x.clash(19899 - 198, 1), 0);
        Due.none("clash(19900, 0)", () -> x.clash(19900, 0));
    }
}
