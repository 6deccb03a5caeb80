import java.util.Random;

/** Promises 17 (meet), 18 (when), 19 (size). */
public final class MeetTest {
    public static void main(String[] args) {
        refused();
        known();
        latestCounts();
        drawn();
        sizes();
        Due.finish();
    }

    private static void refused() {
        ShipVoices x = new ShipVoices();
        Wire wire = new Wire(x);
        Due.is("no positions", x.meet(1, 2), -1);
        wire.send(0, Wire.position(1, 3, 4, 0, 0), Wire.fixed(2, 0, 0, 5));
        Due.is("one has none", x.meet(1, 2), -1);
        Due.is("the other has none", x.meet(2, 1), -1);
        Due.is("the same", x.meet(1, 1), -1);
        Due.is("when() ahead of any", x.when(), -1);
        x.wait(5);
        wire.send(0, Wire.position(2, 0, 0, 0, 0));
        Due.is("both rest", x.meet(1, 2), 25);
        Due.is("at once", x.when(), 5);
        x.wait(7);
        Due.is("no ship", x.meet(1, -1), -1);
        Due.is("the same again", x.meet(2, 2), -1);
        Due.is("when() stays", x.when(), 5);
    }

    private static void known() {
        ShipVoices x = new ShipVoices();
        Wire wire = new Wire(x);
        wire.send(0, Wire.position(1, 0, 0, 1, 0), Wire.position(2, 15, 0, -1, 0));
        Due.is("between two seconds", x.meet(1, 2), 1);
        Due.is("the first of both", x.when(), 7);
        x.wait(7);
        Due.is("still", x.meet(2, 1), 1);
        Due.is("still the first", x.when(), 7);
        x.wait(1);
        Due.is("the second", x.meet(1, 2), 1);
        Due.is("is now", x.when(), 8);
        x.wait(1);
        Due.is("they part", x.meet(1, 2), 9);
        Due.is("now", x.when(), 9);
        wire.send(0, Wire.position(3, 0, 0, 0, 0), Wire.position(4, 3601, 5, -1, 0));
        Due.is("one second too far", x.meet(3, 4), 26);
        Due.is("in the last second", x.when(), 3609);
        wire.send(0, Wire.position(4, 3600, 5, -1, 0));
        Due.is("in the last second", x.meet(3, 4), 25);
        Due.is("in the last second", x.when(), 3609);
        wire.send(0, Wire.position(4, 20000, 5, -1, 0));
        Due.is("far", x.meet(3, 4), 16400L * 16400 + 25);
        Due.is("in the last second", x.when(), 3609);
    }

    private static void latestCounts() {
        ShipVoices x = new ShipVoices();
        Wire wire = new Wire(x);
        wire.send(0, Wire.position(1, 0, 0, 0, 0), Wire.position(2, 100, 0, 0, 0));
        wire.send(1, Wire.position(2, 10, 0, 0, 0));
        Due.is("of one second the last", x.meet(1, 2), 100);
        x.wait(50);
        wire.send(0, Wire.position(2, 0, 30, 0, 1));
        x.wait(10);
        Due.is("it moved on", x.meet(1, 2), 1600);
        Due.is("now", x.when(), 60);
    }

    private static void drawn() {
        Random random = new Random(17);
        for (int run = 0; run < 300; run++) {
            ShipVoices x = new ShipVoices();
            PlainVoices y = new PlainVoices();
            int near = 1 << random.nextInt(17);
            for (int ship = 1; ship <= 2; ship++) {
                int px = random.nextInt(near) - near / 2;
                int py = random.nextInt(near) - near / 2;
                int[] speeds = {0, 1, -1, 2, 127, -128, random.nextInt(256) - 128};
                int u = speeds[random.nextInt(7)];
                int v = speeds[random.nextInt(7)];
                String frame = Wire.frame(Wire.position(ship, px, py, u, v));
                Wire.hearBoth(x, y, frame);
                int seconds = random.nextInt(3) == 0 ? random.nextInt(100001) : random.nextInt(100);
                x.wait(seconds);
                y.wait(seconds);
            }
            for (int k = random.nextInt(3) == 0 ? 18 : 0; k > 0; k--) {
                x.wait(100000);
                y.wait(100000);
            }
            Due.is("meet in run " + run, x.meet(1, 2), y.meet(1, 2));
            Due.is("when in run " + run, x.when(), y.when());
        }
    }

    private static void sizes() {
        ShipVoices x = new ShipVoices();
        Wire wire = new Wire(x);
        wire.send(0, Wire.position(7, 1, 2, 3, 4));
        Due.is("no static", x.size(7), -1);
        wire.send(0, Wire.fixed(7, 1, 2, 200), Wire.fixed(8, 1, 2, 0));
        Due.is("size(7)", x.size(7), 200);
        Due.is("size(8)", x.size(8), 0);
        x.wait(1);
        wire.send(1, Wire.fixed(7, 1, 2, 255), Wire.fixed(7, 27, 2, 3));
        Due.is("the latest, strange ones aside", x.size(7), 255);
        Due.is("size(9)", x.size(9), -1);
        Due.is("size(-1)", x.size(-1), -1);
    }
}
