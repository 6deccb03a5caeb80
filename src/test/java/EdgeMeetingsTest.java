/** Terms 3, MEETING, and promises 17 (meet), 18 (when), 19 (size): each sentence that names a boundary case. */
public final class EdgeMeetingsTest {
    private static final int MOST = Integer.MAX_VALUE;
    private static final int LEAST = Integer.MIN_VALUE;

    public static void main(String[] args) {
        latestPosition();
        movesOn();
        fromNowOn();
        upToTheLastSecond();
        firstSecond();
        betweenSeconds();
        widest();
        refused();
        when();
        sizes();
        sizeNone();
        Due.finish();
    }

    private static void goOn(ShipVoices x, int seconds) {
        int left = seconds;
        for (int k = 0; k < 20 && left > 0; k++) {
            x.wait(Math.min(100000, left));
            left -= Math.min(100000, left);
        }
    }

    /** Both ways round, for the MEETING of two is one. */
    private static void meets(ShipVoices x, int ship, int other, long square, int second) {
        Due.is("meet(" + ship + ", " + other + ")", x.meet(ship, other), square);
        Due.is("when()", x.when(), second);
        Due.is("meet(" + other + ", " + ship + ")", x.meet(other, ship), square);
        Due.is("when()", x.when(), second);
    }

    private static void latestPosition() {
        Due.about("Terms 3", "MEETING of two SHIPS: each moves on from its latest POSITION (by SECOND; of one SECOND the last in the LOG) by u, v:");
        ShipVoices x = new ShipVoices();
        Wire wire = new Wire(x);
        wire.sendAll(0, Wire.position(1, 0, 0, 0, 0), Wire.position(2, 1, 0, 0, 0), Wire.position(2, 50, 0, 0, 0));
        meets(x, 1, 2, 2500, 0);
        wire.sendAll(1, Wire.position(2, 7, 0, 0, 0));
        meets(x, 1, 2, 49, 0);
        x.wait(1);
        wire.sendAll(0, Wire.position(2, 90, 0, 0, 0), Wire.fixed(2, 0, 0, 1), "01010101", Wire.position(3, 1, 1, 0, 0));
        meets(x, 1, 2, 8100, 1);
        wire.sendAll(0, Wire.position(1, 89, 0, 0, 0));
        meets(x, 1, 2, 1, 1);
    }

    private static void movesOn() {
        Due.about("Terms 3", "each moves on from its latest POSITION (by SECOND; of one SECOND the last in the LOG) by u, v:");
        ShipVoices x = new ShipVoices();
        Wire wire = new Wire(x);
        wire.send(0, Wire.position(1, 100, 7, 2, -1));
        x.wait(10);
        wire.send(0, Wire.position(2, 0, 0, 0, 0));
        x.wait(5);
        // SHIP 1 is at 130, -8 now, and moves away.
        meets(x, 1, 2, 130 * 130 + 64, 15);
        wire.send(0, Wire.position(3, -32768, -32768, -128, -128));
        x.wait(1);
        wire.send(0, Wire.position(4, -32768, -32768, -128, -128));
        meets(x, 3, 4, 128 * 128 * 2, 16);
        x.wait(100000);
        meets(x, 3, 4, 128 * 128 * 2, 100016);
    }

    private static void fromNowOn() {
        Due.about("Terms 3", "the least square of their distance at NOW, NOW + 1, .. NOW + 3600,");
        ShipVoices x = new ShipVoices();
        new Wire(x).sendAll(0, Wire.position(1, 0, 3, 1, 0), Wire.position(2, 10, 0, 0, 0));
        meets(x, 1, 2, 9, 10);
        x.wait(9);
        meets(x, 1, 2, 9, 10);
        x.wait(1);
        meets(x, 1, 2, 9, 10);
        x.wait(1);
        meets(x, 1, 2, 10, 11);
        x.wait(10);
        meets(x, 1, 2, 121 + 9, 21);
    }

    private static void upToTheLastSecond() {
        Due.about("Terms 3", "the least square of their distance at NOW, NOW + 1, .. NOW + 3600,");
        int[][] due = {{3599, 0, 3599}, {3600, 0, 3600}, {3601, 1, 3600}, {3602, 4, 3600}, {32767, 29167, 3600}};
        for (int[] one : due) {
            ShipVoices x = new ShipVoices();
            new Wire(x).sendAll(0, Wire.position(1, 0, 2, 1, 0), Wire.position(2, one[0], 0, 0, 0));
            long across = one[0] <= 3600 ? 0 : one[0] - 3600;
            meets(x, 1, 2, across * across + 4, one[2]);
            x.wait(1);
            across = one[0] <= 3601 ? 0 : one[0] - 3601;
            meets(x, 1, 2, across * across + 4, Math.min(one[0], 3601));
        }
    }

    private static void firstSecond() {
        Due.about("Terms 3", "and the first SECOND with it.");
        ShipVoices x = new ShipVoices();
        Wire wire = new Wire(x);
        wire.sendAll(0, Wire.position(1, 3, 4, 0, 0), Wire.position(2, 0, 0, 0, 0), Wire.position(3, 3, 4, 5, -6), Wire.position(4, 0, 0, 5, -6));
        meets(x, 1, 2, 25, 0);
        meets(x, 3, 4, 25, 0);
        x.wait(7);
        meets(x, 1, 2, 25, 7);
        meets(x, 3, 4, 25, 7);
        wire.sendAll(0, Wire.position(5, 0, 0, 1, 0), Wire.position(6, 3, 0, 0, 0), Wire.position(7, 15, 0, -1, 0));
        meets(x, 5, 6, 0, 10);
        meets(x, 5, 7, 1, 14);
        x.wait(7);
        meets(x, 5, 7, 1, 14);
        x.wait(1);
        meets(x, 5, 7, 1, 15);
        x.wait(1);
        meets(x, 5, 7, 9, 16);
        ShipVoices last = new ShipVoices();
        new Wire(last).sendAll(0, Wire.position(1, 0, 0, 1, 0), Wire.position(2, 7199, 0, -1, 0), Wire.position(3, 7201, 0, -1, 0));
        meets(last, 1, 2, 1, 3599);
        meets(last, 1, 3, 1, 3600);
    }

    private static void betweenSeconds() {
        Due.about("Terms 3", "the least square of their distance at NOW, NOW + 1, .. NOW + 3600, and the first SECOND with it.");
        // One goes by 10 a SECOND: the whole SECOND just ahead of the nearest point, or just behind it, whichever is nearer.
        int[][] due = {{100, 0, 10}, {101, 1, 10}, {104, 16, 10}, {105, 25, 10}, {106, 16, 11}, {109, 1, 11}, {3, 9, 0}, {5, 25, 0}, {6, 16, 1}};
        for (int[] one : due) {
            ShipVoices x = new ShipVoices();
            new Wire(x).sendAll(0, Wire.position(1, 0, 0, 10, 0), Wire.position(2, one[0], 0, 0, 0));
            meets(x, 1, 2, one[1], one[2]);
            ShipVoices turned = new ShipVoices();
            new Wire(turned).sendAll(0, Wire.position(1, 0, 0, 0, -10), Wire.position(2, 0, -one[0], 0, 0));
            meets(turned, 1, 2, one[1], one[2]);
        }
    }

    private static void widest() {
        Due.about("Promise 17", "The MEETING of two SHIPS: the square of the distance;");
        ShipVoices x = new ShipVoices();
        new Wire(x).sendAll(0, Wire.position(1, -32768, -32768, -128, -128), Wire.position(2, 32767, 32767, 127, 127));
        meets(x, 1, 2, 8589672450L, 0);
        goOn(x, 2000000);
        long apart = 65535 + 255L * 2000000;
        meets(x, 1, 2, 2 * apart * apart, 2000000);
        ShipVoices z = new ShipVoices();
        new Wire(z).sendAll(0, Wire.position(0, 32767, -32768, -128, 127), Wire.position(1048575, -32768, 32767, 127, -128));
        meets(z, 0, 1048575, 0, 257);
        goOn(z, 1999999);
        Wire last = new Wire(z);
        last.hear(1, Wire.frame(Wire.position(3, 0, 0, 1, 0)));
        last.hear(1, Wire.frame(Wire.position(4, 32767, 0, 0, 0)));
        z.wait(1);
        meets(z, 3, 4, 29166L * 29166, 2003600);
    }

    private static void refused() {
        Due.about("Promise 17", "NONE (there is the one that there was): they are the same, or one has no POSITION.");
        ShipVoices x = new ShipVoices();
        Wire wire = new Wire(x);
        Due.is("the same, of none", x.meet(1, 1), -1);
        wire.sendAll(0, Wire.position(1, 0, 0, 0, 0), Wire.fixed(2, 0, 0, 1), Wire.position(2, 0, 0, 0, 0) + "0", Wire.claim(2, 0, 1));
        Due.is("the other one has none", x.meet(1, 2), -1);
        Due.is("the one has none", x.meet(2, 1), -1);
        Due.is("both have none", x.meet(2, 3), -1);
        Due.is("the same", x.meet(1, 1), -1);
        Due.is("the same that has none", x.meet(2, 2), -1);
        Due.is("no MEETING yet", x.when(), -1);
        x.wait(4);
        wire.send(0, Wire.position(2, 3, 4, 0, 0));
        Due.is("now", x.meet(1, 2), 25);
        x.wait(4);
        int[] others = {-1, 0, 3, 1048576, LEAST, MOST};
        for (int other : others) {
            Due.is("meet(1, " + other + ")", x.meet(1, other), -1);
            Due.is("meet(" + other + ", 2)", x.meet(other, 2), -1);
        }
        Due.is("the same", x.meet(2, 2), -1);
        Due.is("no SHIP with itself", x.meet(-1, -1), -1);
        Due.is("there is the one that there was", x.when(), 4);
    }

    private static void when() {
        Due.about("Promise 18", "The SECOND of the latest MEETING; NONE ahead of any.");
        ShipVoices x = new ShipVoices();
        Due.is("ahead of any", x.when(), -1);
        new Wire(x).sendAll(0, Wire.position(1, 0, 0, 1, 0), Wire.position(2, 9, 0, 0, 0), Wire.position(3, 5, 0, 0, 0));
        Due.is("POSITIONS alone make none", x.when(), -1);
        x.meet(1, 2);
        Due.is("of the first", x.when(), 9);
        x.wait(100);
        Due.is("it stays as time goes on", x.when(), 9);
        x.meet(2, 3);
        Due.is("of the latest", x.when(), 100);
        Due.is("asked again", x.when(), 100);
    }

    private static void sizes() {
        Due.about("Promise 19", "The STATIC LONG latest told of a SHIP in the LOG;");
        ShipVoices x = new ShipVoices();
        Wire wire = new Wire(x);
        wire.sendAll(0, Wire.fixed(0, 0, 0, 0), Wire.fixed(1048575, 0, 0, 255), Wire.fixed(7, 0, 0, 9), Wire.fixed(7, 0, 0, 5));
        Due.is("0", x.size(0), 0);
        Due.is("255", x.size(1048575), 255);
        Due.is("of one SECOND the last", x.size(7), 5);
        x.wait(1);
        wire.sendAll(1, Wire.fixed(7, 0, 0, 200), Wire.fixed(7, 31, 0, 3), Wire.position(7, 0, 0, 99, 0), Wire.piece(7, 0, 0, 4, 0));
        Due.is("the latest, other KINDS and STRANGE ones aside", x.size(7), 200);
    }

    private static void sizeNone() {
        Due.about("Promise 19", "NONE without one.");
        ShipVoices x = new ShipVoices();
        Due.is("of an empty LOG", x.size(0), -1);
        new Wire(x).sendAll(0, Wire.position(7, 1, 1, 1, 1), Wire.fixed(8, 0, 0, 1), "01010101");
        int[] others = {7, 0, -1, 1048576, LEAST, MOST};
        for (int ship : others) {
            Due.is("size(" + ship + ")", x.size(ship), -1);
        }
        ShipVoices full = new ShipVoices();
        Wire wire = new Wire(full);
        String[] fill = new String[200];
        for (int k = 0; k < 200; k++) {
            fill[k] = "01010101";
        }
        wire.sendAll(0, fill);
        wire.send(0, Wire.fixed(7, 0, 0, 9));
        Due.is("told when the LOG was full", full.size(7), -1);
    }
}
