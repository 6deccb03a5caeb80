/** Terms 3, TRACKS, and promises 9 (part), 10 (cost), 11 (parted): each sentence that names a boundary case. */
public final class EdgeTracksTest {
    private static final int MOST = Integer.MAX_VALUE;
    private static final int LEAST = Integer.MIN_VALUE;

    public static void main(String[] args) {
        order();
        reach();
        wideReach();
        atMostOne();
        fewest();
        leastCost();
        first();
        noneOnlyIfNoneMay();
        howMany();
        madeAnew();
        refused();
        stays();
        cost();
        parted();
        partedNone();
        Due.finish();
    }

    /** A new object that has POSITIONS of SHIP 7, each {SECOND, x, y}, by SECOND. */
    private static ShipVoices sea(int[]... positions) {
        ShipVoices x = new ShipVoices();
        Wire wire = new Wire(x);
        for (int[] p : positions) {
            goOn(x, p[0]);
            wire.send(0, Wire.position(7, p[1], p[2], 0, 0));
        }
        return x;
    }

    private static void goOn(ShipVoices x, int second) {
        for (int k = 0; k < 21 && x.count(0) < second; k++) {
            x.wait(Math.min(100000, second - x.count(0)));
        }
    }

    /** Each POSITION's number in the LOG, the one that it follows, its TRACK. */
    private static void rows(ShipVoices x, int[]... due) {
        for (int k = 0; k < due.length; k++) {
            for (int what = 0; what < 3; what++) {
                Due.is("parted(" + k + ", " + what + ")", x.parted(k, what), due[k][what]);
            }
        }
        Due.is("no more of them", x.parted(due.length, 0), -1);
    }

    private static int[] row(int... row) {
        return row;
    }

    private static void order() {
        Due.about("Terms 3", "TRACKS of a SHIP and a SPEED V (1 to 1000): its POSITIONS in the LOG, by SECOND, then x, y, as they came;");
        ShipVoices x = new ShipVoices();
        Wire wire = new Wire(x);
        wire.sendAll(0, Wire.position(7, 1, 0, 9, 9), Wire.position(8, -9, 0, 0, 0), Wire.position(7, 0, 0, 0, 0));
        wire.sendAll(1, Wire.position(7, -1, 5, 0, 0), Wire.position(7, -1, -5, 0, 0), "01010101", Wire.fixed(7, 0, 0, 1));
        wire.sendAll(0, Wire.position(7, -32768, 32767, 0, 0), Wire.position(7, 0, 0, -5, -5), Wire.position(7, 32767, -32768, 0, 0));
        x.wait(1);
        wire.send(0, Wire.position(7, -32768, -32768, 0, 0));
        Due.is("none follows another", x.part(7, 1), 8);
        rows(x, row(7, -1, 0), row(4, -1, 1), row(3, -1, 2), row(2, -1, 3), row(8, -1, 4), row(0, -1, 5), row(9, -1, 6), row(10, -1, 7));
    }

    private static void reach() {
        Due.about("Terms 3", "one may FOLLOW another one of an earlier SECOND, if the square of their distance is not above "
            + "that of V times the SECONDS between.");
        ShipVoices x = sea(row(0, 0, 0), row(5, 15, 20));
        Due.is("just as far", x.part(7, 5), 1);
        Due.is("cost", x.cost(), 625);
        Due.is("too far", x.part(7, 4), 2);
        Due.is("cost", x.cost(), 0);
        Due.is("a little too far", sea(row(0, 0, 0), row(5, 15, 21)).part(7, 5), 2);
        Due.is("a little nearer", sea(row(0, 0, 0), row(5, 15, 19)).part(7, 5), 1);
        Due.is("the square goes by one", sea(row(0, 0, 0), row(1, 1, 1)).part(7, 1), 2);
        Due.is("backwards, too", sea(row(0, 15, 20), row(5, 0, 0)).part(7, 5), 1);
        Due.is("in one SECOND", sea(row(9, 3, 3), row(9, 3, 3)).part(7, 1000), 2);
        Due.is("a SECOND later", sea(row(9, 3, 3), row(10, 3, 3)).part(7, 1), 1);
        Due.is("that far in no time", sea(row(0, 0, 0), row(1, 1000, 0)).part(7, 1000), 1);
        Due.is("farther", sea(row(0, 0, 0), row(1, 1000, 1)).part(7, 1000), 2);
    }

    private static void wideReach() {
        Due.about("Terms 3", "if the square of their distance is not above that of V times the SECONDS between.");
        ShipVoices corners = sea(row(0, -32768, -32768), row(1, 32767, 32767));
        Due.is("the widest distance, a slow SHIP", corners.part(7, 1), 2);
        Due.is("a fast one", corners.part(7, 1000), 2);
        Due.is("2 to the 16th SECONDS, near", sea(row(0, 0, 0), row(65536, 5, 0)).part(7, 1), 1);
        Due.is("2 to the 16th SECONDS, far", sea(row(0, -32768, 0), row(65535, 32767, 0)).part(7, 1), 1);
        Due.is("a SECOND less", sea(row(0, -32768, 0), row(65534, 32767, 0)).part(7, 1), 2);
        ShipVoices last = sea(row(0, -32768, 32767), row(2000000, 32767, -32768));
        Due.is("the longest time at the highest SPEED", last.part(7, 1000), 1);
        Due.is("cost", last.cost(), 8589672450L);
        Due.is("the longest time at the least SPEED", last.part(7, 1), 1);
        ShipVoices exact = sea(row(0, -32768, -32768), row(92681, 32767, 32767));
        Due.is("92681 SECONDS for 65535 both ways", exact.part(7, 1), 1);
        Due.is("92680", sea(row(0, -32768, -32768), row(92680, 32767, 32767)).part(7, 1), 2);
    }

    private static void atMostOne() {
        Due.about("Terms 3", "A PARTING: each follows one at most, is followed by one at most; those that follow none begin TRACKS.");
        ShipVoices x = sea(row(0, 0, 0), row(5, 0, 0), row(5, 0, 0), row(5, 0, 0), row(9, 0, 0));
        Due.is("one goes on, two begin", x.part(7, 1), 3);
        rows(x, row(0, -1, 0), row(1, 0, 0), row(2, -1, 1), row(3, -1, 2), row(4, 1, 0));
        ShipVoices z = sea(row(0, 0, 0), row(0, 0, 0), row(0, 0, 0), row(5, 0, 0));
        Due.is("three end, one goes on", z.part(7, 1), 3);
        rows(z, row(0, -1, 0), row(1, -1, 1), row(2, -1, 2), row(3, 0, 0));
    }

    private static void fewest() {
        Due.about("Terms 3", "The least PARTING has the fewest TRACKS, then the least COST");
        ShipVoices x = sea(row(0, 0, 0), row(0, 10, 0), row(1, 10, 0), row(1, 20, 0));
        Due.is("two, though dear", x.part(7, 10), 2);
        Due.is("cost", x.cost(), 200);
        rows(x, row(0, -1, 0), row(1, -1, 1), row(2, 0, 0), row(3, 1, 1));
        Due.is("three, as cheap as can be", x.part(7, 9), 3);
        Due.is("cost", x.cost(), 0);
        rows(x, row(0, -1, 0), row(1, -1, 1), row(2, 1, 1), row(3, -1, 2));
        int[][] corners = new int[16][];
        for (int k = 0; k < 16; k++) {
            corners[k] = k % 2 == 0 ? row(100 * k, -32768, -32768) : row(100 * k, 32767, 32767);
        }
        ShipVoices z = sea(corners);
        Due.is("one TRACK over all corners", z.part(7, 1000), 1);
        Due.is("as dear as can be", z.cost(), 15 * 8589672450L);
        Due.is("two that keep to theirs", z.part(7, 900), 2);
        Due.is("for nothing", z.cost(), 0);
    }

    private static void leastCost() {
        Due.about("Terms 3", "then the least COST (the squares of all distances of followed ones, together);");
        ShipVoices x = sea(row(0, 0, 0), row(0, 10, 0), row(5, 4, 0), row(5, 6, 0));
        Due.is("two", x.part(7, 1000), 2);
        Due.is("4 and 4, not 6 and 6", x.cost(), 32);
        rows(x, row(0, -1, 0), row(1, -1, 1), row(2, 0, 0), row(3, 1, 1));
        ShipVoices chain = sea(row(0, 0, 0), row(1, 3, 4), row(2, 0, 0), row(3, 6, 8));
        Due.is("one", chain.part(7, 1000), 1);
        Due.is("all together", chain.cost(), 25 + 25 + 100);
        ShipVoices near = sea(row(0, 0, 0), row(0, 9, 0), row(5, 8, 0));
        Due.is("two", near.part(7, 1000), 2);
        Due.is("the nearer one", near.cost(), 1);
        rows(near, row(0, -1, 0), row(1, -1, 1), row(2, 1, 1));
        ShipVoices crossed = sea(row(0, 0, 0), row(0, 0, 10), row(5, 1, 10), row(5, 2, 0));
        Due.is("two", crossed.part(7, 1000), 2);
        Due.is("crossed", crossed.cost(), 5);
        rows(crossed, row(0, -1, 0), row(1, -1, 1), row(2, 1, 1), row(3, 0, 0));
    }

    private static void first() {
        Due.about("Terms 3", "of such the first: POSITION by POSITION, in their order, the one that it follows is the first that may be,");
        ShipVoices x = sea(row(0, 0, 0), row(0, 0, 10), row(9, 5, 5), row(9, 5, 5));
        Due.is("two", x.part(7, 100), 2);
        rows(x, row(0, -1, 0), row(1, -1, 1), row(2, 0, 0), row(3, 1, 1));
        ShipVoices same = sea(row(0, 1, 1), row(0, 1, 1), row(0, 1, 1), row(1, 1, 1), row(1, 1, 1), row(1, 1, 1));
        Due.is("three", same.part(7, 1), 3);
        rows(same, row(0, -1, 0), row(1, -1, 1), row(2, -1, 2), row(3, 0, 0), row(4, 1, 1), row(5, 2, 2));
        // The first that may be for 2 alone is 0; but then 3, which reaches 0 alone, would begin a TRACK.
        ShipVoices yields = sea(row(0, 0, 0), row(0, 0, 20), row(5, 0, 10), row(5, 9, -9));
        Due.is("two", yields.part(7, 3), 2);
        rows(yields, row(0, -1, 0), row(1, -1, 1), row(2, 1, 1), row(3, 0, 0));
        firstOfManyLeast();
        // A chain of three or two ends: 4 follows the earlier one of two that rest at its place.
        ShipVoices later = sea(row(0, 0, 0), row(1, 0, 0), row(1, 0, 0), row(2, 0, 0), row(2, 0, 0));
        Due.is("two", later.part(7, 1), 2);
        rows(later, row(0, -1, 0), row(1, 0, 0), row(2, -1, 1), row(3, 1, 0), row(4, 2, 1));
    }

    /** Several PARTINGS are least: a search for one of them comes upon another than the first. */
    private static void firstOfManyLeast() {
        ShipVoices nearer = sea(row(0, 0, 0), row(0, 1, 0), row(1, 1, 0), row(1, 1, 0));
        Due.is("two", nearer.part(7, 1000), 2);
        Due.is("1 either way", nearer.cost(), 1);
        rows(nearer, row(0, -1, 0), row(1, -1, 1), row(2, 0, 0), row(3, 1, 1));
        // 5 three ways: 2 behind 0 and 3 behind 2; 2 behind 1 and 3 behind 0; 2 behind 1 and 3 behind 2.
        ShipVoices three = sea(row(0, 0, 0), row(0, 4, 0), row(3, 2, 0), row(5, 1, 0));
        Due.is("two", three.part(7, 1000), 2);
        Due.is("5 three ways", three.cost(), 5);
        rows(three, row(0, -1, 0), row(1, -1, 1), row(2, 0, 0), row(3, 2, 0));
        // 4 must follow 0; 2 and 3 are alike, and one of them follows 1: the first of both.
        ShipVoices alike = sea(row(0, 0, 1), row(0, 1, 0), row(1, 0, 0), row(1, 0, 0), row(1, 0, 1));
        Due.is("three", alike.part(7, 1000), 3);
        Due.is("cost", alike.cost(), 1);
        rows(alike, row(0, -1, 0), row(1, -1, 1), row(2, 1, 1), row(3, -1, 2), row(4, 0, 0));
    }

    private static void noneOnlyIfNoneMay() {
        Due.about("Terms 3", "or none only if none may be.");
        ShipVoices x = sea(row(0, 0, 0), row(9, 0, -3), row(9, 0, 3));
        Due.is("two", x.part(7, 1), 2);
        rows(x, row(0, -1, 0), row(1, 0, 0), row(2, -1, 1));
        ShipVoices z = sea(row(0, 0, -3), row(0, 0, 3), row(9, 0, 0), row(18, 0, -3));
        Due.is("two", z.part(7, 1), 2);
        Due.is("cost", z.cost(), 9);
        rows(z, row(0, -1, 0), row(1, -1, 1), row(2, 1, 1), row(3, 0, 0));
        ShipVoices y = sea(row(0, 0, 0), row(5, 0, 2), row(5, 0, 2), row(9, 0, 4));
        Due.is("two", y.part(7, 1), 2);
        rows(y, row(0, -1, 0), row(1, 0, 0), row(2, -1, 1), row(3, 1, 0));
        // 2 three ways, in one of which 1 follows 0 and 2 none: 1 comes ahead of 2.
        ShipVoices ahead = sea(row(0, 1, 0), row(3, 1, 1), row(6, 0, 0), row(6, 1, 0));
        Due.is("two", ahead.part(7, 1000), 2);
        Due.is("2 three ways", ahead.cost(), 2);
        rows(ahead, row(0, -1, 0), row(1, 0, 0), row(2, -1, 1), row(3, 1, 0));
        // 1 could follow 0, but the cheaper one goes ahead: 2 does, and 1 begins a TRACK.
        ShipVoices cheaper = sea(row(0, 0, 0), row(5, 0, -2), row(5, 0, 1));
        Due.is("two", cheaper.part(7, 1), 2);
        rows(cheaper, row(0, -1, 0), row(1, -1, 1), row(2, 0, 0));
    }

    private static void howMany() {
        Due.about("Promise 9", "A SHIP's least PARTING with SPEED V is made: how many TRACKS;");
        ShipVoices one = sea(row(3, -4, 5));
        Due.is("of one POSITION", one.part(7, 1), 1);
        Due.is("cost", one.cost(), 0);
        rows(one, row(0, -1, 0));
        Due.is("again", one.part(7, 1000), 1);
        int[][] chain = new int[16][];
        int[][] apart = new int[16][];
        for (int k = 0; k < 16; k++) {
            chain[k] = row(k, k, 0);
            apart[k] = row(0, k, 0);
        }
        ShipVoices x = sea(chain);
        Due.is("sixteen in a chain", x.part(7, 1), 1);
        Due.is("cost", x.cost(), 15);
        for (int k = 0; k < 16; k++) {
            Due.is("follows", x.parted(k, 1), k - 1);
            Due.is("TRACK", x.parted(k, 2), 0);
        }
        ShipVoices z = sea(apart);
        Due.is("sixteen in one SECOND", z.part(7, 1000), 16);
        for (int k = 0; k < 16; k++) {
            Due.is("in the LOG", z.parted(k, 0), k);
            Due.is("follows", z.parted(k, 1), -1);
            Due.is("TRACK", z.parted(k, 2), k);
        }
        ShipVoices other = sea(row(0, 0, 0));
        new Wire(other).sendAll(1, Wire.position(0, 1, 1, 0, 0), Wire.position(1048575, 1, 1, 0, 0), Wire.position(0, 2, 2, 0, 0));
        Due.is("SHIP 0", other.part(0, 1), 2);
        Due.is("SHIP 1048575", other.part(1048575, 1), 1);
        rows(other, row(2, -1, 0));
    }

    /** Nothing of an earlier, larger PARTING is left in a later one. */
    private static void madeAnew() {
        Due.about("Promise 9", "A SHIP's least PARTING with SPEED V is made: how many TRACKS;");
        ShipVoices x = new ShipVoices();
        Wire wire = new Wire(x);
        int[][] small = {row(0, 0, 0), row(0, 4, 0), row(3, 2, 0), row(5, 1, 0)};
        int sent = 0;
        for (int second = 0; second < 16; second++) {
            for (int k = 0; k < small.length; k++) {
                if (small[k][0] == second) {
                    wire.send(0, Wire.position(7, small[k][1], small[k][2], 0, 0));
                }
            }
            wire.send(1, Wire.position(8, second * second, 100 - 7 * second, 0, 0));
            sent++;
            x.wait(1);
        }
        Due.is("sixteen", sent, 16);
        for (int speed = 1; speed <= 1000; speed += 111) {
            Due.isTrue("the larger one", x.part(8, speed) > 0);
            Due.is("the smaller one behind it", x.part(7, 1000), 2);
            Due.is("cost", x.cost(), 5);
            rows(x, row(0, -1, 0), row(1, -1, 1), row(5, 0, 0), row(8, 2, 0));
        }
        Due.is("the larger one again", x.part(8, 1000), 1);
        Due.is("its last", x.parted(15, 1), 14);
    }

    private static void refused() {
        Due.about("Promise 9", "NONE (there is the one that there was): no POSITIONS, more than 16, V not as told.");
        ShipVoices x = sea(row(0, 0, 0), row(1, 1, 0));
        Due.is("ahead of any, refused", x.part(8, 1), -1);
        Due.is("nothing parted", x.parted(0, 0), -1);
        int[] speeds = {0, -1, 1001, LEAST, MOST, -1000};
        for (int speed : speeds) {
            Due.is("SPEED " + speed, x.part(7, speed), -1);
            Due.is("nothing parted", x.parted(0, 0), -1);
        }
        Due.is("SPEED 1", x.part(7, 1), 1);
        Due.is("SPEED 1000", x.part(7, 1000), 1);
        for (int speed : speeds) {
            Due.is("SPEED " + speed, x.part(7, speed), -1);
        }
        int[] ships = {-1, 0, 6, 8, 1048576, LEAST, MOST};
        for (int ship : ships) {
            Due.is("SHIP " + ship, x.part(ship, 1), -1);
        }
        rows(x, row(0, -1, 0), row(1, 0, 0));
        Due.is("cost", x.cost(), 1);
    }

    private static void stays() {
        Due.about("Promise 9", "NONE (there is the one that there was): no POSITIONS, more than 16, V not as told.");
        ShipVoices x = new ShipVoices();
        Wire wire = new Wire(x);
        for (int k = 0; k < 16; k++) {
            wire.send(0, Wire.position(7, 0, k, 0, 0));
            x.wait(1);
        }
        wire.sendAll(0, Wire.fixed(7, 0, 0, 1), Wire.position(8, 0, 0, 0, 0), Wire.position(7, 0, 0, 0, 0) + "0");
        Due.is("sixteen, others aside", x.part(7, 1), 1);
        wire.send(1, Wire.position(7, 0, 16, 0, 0));
        Due.is("the PARTING stays as it was made", x.parted(16, 0), -1);
        Due.is("seventeen", x.part(7, 1), -1);
        Due.is("cost stays", x.cost(), 15);
        Due.is("parted stays", x.parted(15, 1), 14);
        Due.is("another SHIP's", x.part(8, 1), 1);
        rows(x, row(17, -1, 0));
        Due.is("cost", x.cost(), 0);
    }

    private static void cost() {
        Due.about("Promise 10", "Of the PARTING: the COST; 0 ahead of any.");
        ShipVoices x = sea(row(0, 0, 0), row(100, 30000, 0));
        Due.is("ahead of any", x.cost(), 0);
        Due.is("refused", x.part(7, 0), -1);
        Due.is("ahead of any still", x.cost(), 0);
        Due.is("one TRACK", x.part(7, 300), 1);
        Due.is("cost", x.cost(), 900000000L);
        Due.is("two TRACKS", x.part(7, 299), 2);
        Due.is("nothing is followed", x.cost(), 0);
        ShipVoices z = sea(row(0, -32768, 0), row(100, 32767, 0));
        z.part(7, 1000);
        Due.is("above what an int holds", z.cost(), 4294836225L);
    }

    private static void parted() {
        Due.about("Promise 11", "Of POSITION k of the PARTING (in its order, from 0 on): 0 its number in the LOG, 1 which it follows (NONE), "
            + "2 its TRACK (TRACKS are numbered as they begin).");
        ShipVoices x = new ShipVoices();
        Wire wire = new Wire(x);
        wire.sendAll(0, Wire.base(1, 1), Wire.position(7, 50, 0, 0, 0), Wire.position(7, 0, 0, 0, 0));
        x.wait(1);
        wire.sendAll(0, "01010101", Wire.position(7, 51, 0, 0, 0), Wire.position(7, 90, 0, 0, 0), Wire.position(7, 1, 0, 0, 0));
        x.wait(1);
        wire.sendAll(1, Wire.position(7, 91, 0, 0, 0), Wire.position(7, 52, 0, 0, 0));
        Due.is("three", x.part(7, 1), 3);
        rows(x, row(2, -1, 0), row(1, -1, 1), row(6, 0, 0), row(4, 1, 1), row(5, -1, 2), row(8, 3, 1), row(7, 4, 2));
    }

    private static void partedNone() {
        Due.about("Promise 11", "NONE: there is none such, another what, or ahead of any.");
        ShipVoices x = sea(row(0, 0, 0), row(1, 0, 0), row(2, 0, 0));
        for (int what = -1; what < 4; what++) {
            Due.is("ahead of any", x.parted(0, what), -1);
        }
        x.part(7, 1);
        int[] none = {-1, 3, 4, 15, 16, 17, LEAST, MOST};
        for (int k : none) {
            for (int what = 0; what < 3; what++) {
                Due.is("parted(" + k + ", " + what + ")", x.parted(k, what), -1);
            }
        }
        int[] others = {-1, 3, 4, LEAST, MOST};
        for (int what : others) {
            Due.is("parted(1, " + what + ")", x.parted(1, what), -1);
        }
        Due.is("parted(2, 0)", x.parted(2, 0), 2);
        new Wire(x).send(1, Wire.position(9, 5, 5, 0, 0));
        x.part(9, 1);
        Due.is("of a shorter PARTING behind a longer one", x.parted(1, 0), -1);
    }
}
