import java.util.Random;

/** Promises 9 (part), 10 (cost), 11 (parted). */
public final class PartTest {
    public static void main(String[] args) {
        refused();
        order();
        reach();
        fewestThenCheapest();
        firstOfEqual();
        drawn();
        Due.finish();
    }

    private static void refused() {
        ShipVoices x = new ShipVoices();
        Wire wire = new Wire(x);
        Due.is("no positions", x.part(7, 5), -1);
        Due.is("cost ahead of any", x.cost(), 0);
        Due.is("parted ahead of any", x.parted(0, 0), -1);
        wire.send(0, Wire.position(7, 1, 2, 3, 4));
        x.wait(1);
        wire.send(0, Wire.position(7, 1, 4, 3, 4), Wire.fixed(8, 0, 0, 1));
        Due.is("speed 0", x.part(7, 0), -1);
        Due.is("speed -1", x.part(7, -1), -1);
        Due.is("speed 1001", x.part(7, 1001), -1);
        Due.is("nothing parted", x.parted(0, 0), -1);
        Due.is("speed 1000", x.part(7, 1000), 1);
        Due.is("another ship", x.part(8, 1000), -1);
        Due.is("no ship", x.part(-1, 1000), -1);
        Due.is("cost stays", x.cost(), 4);
        Due.is("parted stays", x.parted(1, 1), 0);
        for (int what = -1; what < 4; what++) {
            Due.is("parted(2, " + what + ")", x.parted(2, what), -1);
            Due.is("parted(-1, " + what + ")", x.parted(-1, what), -1);
        }
        Due.is("parted(0, 3)", x.parted(0, 3), -1);
        Due.is("parted(0, -1)", x.parted(0, -1), -1);
        for (int k = 2; k < 16; k++) {
            wire.send(0, Wire.position(7, 1, 2, 3, 4));
        }
        Due.is("sixteen", x.part(7, 1), 15);
        wire.send(0, Wire.position(7, 1, 2, 3, 4));
        Due.is("seventeen", x.part(7, 1), -1);
        Due.is("the one that there was", x.parted(15, 0), 1);
    }

    private static void row(ShipVoices x, int k, int inLog, int follows, int track) {
        Due.is("parted(" + k + ", 0)", x.parted(k, 0), inLog);
        Due.is("parted(" + k + ", 1)", x.parted(k, 1), follows);
        Due.is("parted(" + k + ", 2)", x.parted(k, 2), track);
    }

    private static void order() {
        ShipVoices x = new ShipVoices();
        Wire wire = new Wire(x);
        wire.send(0, Wire.position(7, 5, 5, 0, 0), Wire.position(9, 0, 0, 0, 0), Wire.position(7, -5, 9, 0, 0));
        wire.send(1, Wire.position(7, 5, -5, 0, 0), Wire.position(7, 5, 5, 1, 1), Wire.position(7, -5, 9, 2, 2));
        Due.is("none follows one of its second", x.part(7, 1000), 5);
        row(x, 0, 2, -1, 0);
        row(x, 1, 5, -1, 1);
        row(x, 2, 3, -1, 2);
        row(x, 3, 0, -1, 3);
        row(x, 4, 4, -1, 4);
        Due.is("cost", x.cost(), 0);
    }

    private static void reach() {
        ShipVoices x = new ShipVoices();
        Wire wire = new Wire(x);
        wire.send(0, Wire.position(7, 0, 0, 0, 0));
        x.wait(2);
        wire.send(0, Wire.position(7, 6, 8, 0, 0));
        Due.is("just so far", x.part(7, 5), 1);
        Due.is("cost", x.cost(), 100);
        Due.is("too far", x.part(7, 4), 2);
        Due.is("cost", x.cost(), 0);
        ShipVoices z = new ShipVoices();
        Wire other = new Wire(z);
        other.send(0, Wire.position(7, -32768, -32768, 0, 0));
        for (int k = 0; k < 20; k++) {
            z.wait(100000);
        }
        other.send(0, Wire.position(7, 32767, 32767, 0, 0));
        Due.is("the widest reach", z.part(7, 1000), 1);
        Due.is("the dearest", z.cost(), 2L * 65535 * 65535);
    }

    /** Fewest tracks come ahead of the cost: the cheap step would leave one alone. */
    private static void fewestThenCheapest() {
        ShipVoices x = new ShipVoices();
        Wire wire = new Wire(x);
        wire.send(0, Wire.position(7, 0, 0, 0, 0), Wire.position(7, 10, 0, 0, 0));
        x.wait(1);
        wire.send(0, Wire.position(7, 10, 0, 0, 0), Wire.position(7, 20, 0, 0, 0));
        Due.is("two tracks", x.part(7, 10), 2);
        Due.is("dear", x.cost(), 200);
        row(x, 2, 2, 0, 0);
        row(x, 3, 3, 1, 1);
        Due.is("slower: three", x.part(7, 9), 3);
        Due.is("cheap", x.cost(), 0);
        row(x, 2, 2, 1, 1);
        row(x, 3, 3, -1, 2);
        Due.is("faster: as cheap as can be", x.part(7, 1000), 2);
        Due.is("crossing is dearer", x.cost(), 200);
    }

    /** Of two equal ones the earlier position gets the first that may be. */
    private static void firstOfEqual() {
        ShipVoices x = new ShipVoices();
        Wire wire = new Wire(x);
        wire.send(0, Wire.position(7, 0, 0, 0, 0), Wire.position(7, 0, 10, 0, 0));
        x.wait(10);
        wire.send(0, Wire.position(7, 5, 5, 0, 0), Wire.position(7, 5, 5, 0, 0));
        Due.is("two", x.part(7, 100), 2);
        row(x, 2, 2, 0, 0);
        row(x, 3, 3, 1, 1);
        ShipVoices z = new ShipVoices();
        Wire other = new Wire(z);
        other.send(0, Wire.position(7, 0, 0, 0, 0));
        z.wait(10);
        other.send(0, Wire.position(7, 0, -3, 0, 0), Wire.position(7, 0, 3, 0, 0));
        Due.is("one may follow", z.part(7, 1), 2);
        row(z, 1, 1, 0, 0);
        row(z, 2, 2, -1, 1);
        z.wait(10);
        other.send(0, Wire.position(7, 0, 0, 0, 0));
        Due.is("a track of three", z.part(7, 1), 2);
        row(z, 1, 1, 0, 0);
        row(z, 2, 2, -1, 1);
        row(z, 3, 3, 1, 0);
    }

    /** Small seas, so that many partings are equal, against all partings tried out. */
    private static void drawn() {
        Random random = new Random(9);
        for (int run = 0; run < 600; run++) {
            ShipVoices x = new ShipVoices();
            PlainVoices y = new PlainVoices();
            int many = 1 + random.nextInt(run % 4 == 0 ? 16 : 10);
            int wide = 1 + random.nextInt(1 << random.nextInt(12));
            int high = random.nextInt(3) == 0 ? 1 : wide;
            for (int k = 0; k < many; k++) {
                String message = Wire.position(7, random.nextInt(wide) - wide / 2, random.nextInt(high), 0, 0);
                Wire.hearBoth(x, y, Wire.frame(message));
                int seconds = random.nextInt(3) * (1 + random.nextInt(4));
                x.wait(seconds);
                y.wait(seconds);
            }
            int[] speeds = {1, 2, 3, 1 + random.nextInt(1000), 1000};
            for (int speed : speeds) {
                same(run, x, y, speed);
            }
        }
    }

    private static void same(int run, ShipVoices x, PlainVoices y, int speed) {
        String in = " in run " + run + ", speed " + speed;
        Due.is("part" + in, x.part(7, speed), y.part(7, speed));
        Due.is("cost" + in, x.cost(), y.cost());
        for (int k = 0; k <= 16; k++) {
            for (int what = 0; what < 3; what++) {
                Due.is("parted(" + k + ", " + what + ")" + in, x.parted(k, what), y.parted(k, what));
            }
        }
    }
}
