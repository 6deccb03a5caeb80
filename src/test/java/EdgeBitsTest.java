/** Terms 1 up to the MARK: each sentence that names a boundary case of LEVELS, BITS and ONES. */
public final class EdgeBitsTest {
    private static final String GOOD = Wire.claim(7, 100, 3);
    private static final String LOSING = "01111111";

    public static void main(String[] args) {
        channelsApart();
        highestBitFirst();
        firstLevel();
        levelOverTapes();
        onesOverTapes();
        onesWithoutEnd();
        sixthAndSeventh();
        lostTillMark();
        leftOut();
        endOfMark();
        lastSixTakenOff();
        noPiece();
        putAnew();
        elsePut();
        Due.finish();
    }

    /** Hears bytes as LEVELS. */
    private static int levels(ShipVoices x, int channel, int... bytes) {
        Wire.feed(x, bytes);
        return x.hear(channel);
    }

    /** A new object that has heard the BITS on channel 0: a whole number of bytes, so that none are added. */
    private static ShipVoices heard(String bits) {
        Due.is("whole bytes", bits.length() % 8, 0);
        ShipVoices x = new ShipVoices();
        new Wire(x).hear(0, bits);
        return x;
    }

    private static void channelsApart() {
        Due.about("Terms 1", "CHANNELS 0, 1, each by itself.");
        ShipVoices x = new ShipVoices();
        Wire wire = new Wire(x);
        String one = Wire.MARK + Wire.body(GOOD) + Wire.MARK;
        String other = Wire.MARK + Wire.body(Wire.claim(9, 5, 1)) + Wire.MARK;
        one += "0".repeat(96 - one.length());
        other += "0".repeat(96 - other.length());
        int read = 0;
        for (int k = 0; k < 96; k += 8) {
            read += wire.hear(0, one.substring(k, k + 8));
            read += wire.hear(1, other.substring(k, k + 8));
        }
        Due.is("byte by byte, both are read", read, 2);
        Due.is("ship on one", x.message(0, 1) + x.message(1, 1), 16);
        Due.is("the channel of 7", x.message(x.message(0, 1) == 7 ? 0 : 1, 2), 0);
        Due.is("the channel of 9", x.message(x.message(0, 1) == 9 ? 0 : 1, 2), 1);
        wire.hear(0, Wire.MARK);
        wire.hear(1, Wire.MARK);
        wire.hear(0, "00000111");
        wire.hear(1, "11100000");
        Due.is("three ONES on 0, three on 1 make no six", x.count(8), 8);
        wire.hear(0, "11110000");
        Due.is("0 is LOST", x.count(7), -1);
        Due.is("1 is not", x.count(8), 8);
        ShipVoices z = new ShipVoices();
        levels(z, 0, 0xff);
        levels(z, 1, 0x02);
        Due.is("the LEVEL ahead on 1 is not that of 0", z.count(8), 1);
        Due.is("a MARK on 1 is none on 0", z.count(7), -1);
    }

    private static void highestBitFirst() {
        Due.about("Terms 1", "LEVELS come one by one (bytes, the highest bit first);");
        ShipVoices x = new ShipVoices();
        levels(x, 0, 0x02);
        Due.is("0, 0, 0, 0, 0, 0, 1, 0: a MARK, then a BIT 0", x.count(7), 1);
        ShipVoices z = new ShipVoices();
        levels(z, 0, 0x40);
        Due.is("0, 1, 0, 0, 0, 0, 0, 0: none", z.count(7), -1);
        ShipVoices both = new ShipVoices();
        levels(both, 0, 0xff, 0x80);
        Due.is("the first byte first: 0, seven 1, 1, 0: no MARK", both.count(7), -1);
        ShipVoices turned = new ShipVoices();
        levels(turned, 0, 0xfe, 0xaa);
        Due.is("a MARK in the first, eight BITS 0 in the second", turned.count(7), 8);
    }

    private static void firstLevel() {
        Due.about("Terms 1", "a BIT is 1, if the LEVEL is that of the one ahead (at first 0), else 0.");
        for (int channel = 0; channel < 2; channel++) {
            int[][] due = {
                {0x02, 1}, {0x03, 1}, {0x01, -1}, {0x00, -1}, {0x04, -1}, {0xfd, -1}, {0xfe, 0}, {0xff, -1}, {0x80, -1},
            };
            for (int[] one : due) {
                ShipVoices x = new ShipVoices();
                levels(x, channel, one[0]);
                Due.is("put behind the first byte " + one[0], x.count(7 + channel), one[1]);
                Due.is("the other channel", x.count(8 - channel), -1);
            }
        }
    }

    private static void levelOverTapes() {
        Due.about("Terms 1", "a BIT is 1, if the LEVEL is that of the one ahead (at first 0), else 0.");
        ShipVoices x = new ShipVoices();
        levels(x, 0, 0x01);
        levels(x, 0, 0xfd);
        Due.is("the last LEVEL of a tape is ahead of the next one's first", x.count(7), 1);
        ShipVoices z = new ShipVoices();
        levels(z, 0, 0x01);
        z.hear(0);
        Wire.feed(z, 0x55);
        z.end(0);
        z.hear(0);
        levels(z, 1, 0xaa);
        levels(z, 0, 0xfd);
        Due.is("empty tapes and another channel between change nothing", z.count(7), 1);
    }

    private static void onesOverTapes() {
        Due.about("Terms 1", "ONES is how many BITS 1 stand one behind another up to now.");
        for (int ahead = 0; ahead <= 8; ahead++) {
            ShipVoices x = new ShipVoices();
            Wire wire = new Wire(x);
            String bits = "0".repeat(ahead) + Wire.MARK + "0".repeat(16 - ahead);
            for (int k = 0; k < 24; k += 8) {
                wire.hear(0, bits.substring(k, k + 8));
                x.hear(0);
            }
            Due.is("a MARK cut by tapes, " + ahead + " ahead", x.count(7), 16 - ahead);
        }
    }

    private static void onesWithoutEnd() {
        Due.about("Terms 1", "behind 7 or more it is nothing;");
        int[] many = {7, 8, 9, 12, 13, 14, 15, 127 + 6, 128 + 6, 256 + 5, 256 + 6, 256 + 7, 512 + 6};
        for (int ones : many) {
            ShipVoices x = new ShipVoices();
            Wire wire = new Wire(x);
            wire.hear(0, Wire.MARK + "0".repeat((16 - (ones + 1) % 8) % 8) + "1".repeat(ones) + "0");
            Due.is(ones + " ONES, then a 0", x.count(7), -1);
            wire.hear(0, "00000000");
            Due.is("still LOST", x.count(7), -1);
        }
        ShipVoices x = new ShipVoices();
        Wire wire = new Wire(x);
        wire.hear(0, Wire.MARK);
        for (int k = 0; k < 20; k++) {
            wire.hear(0, "1".repeat(3200));
        }
        wire.hear(0, "1".repeat(65536 - 64000) + "11111100");
        Due.is("65542 ONES, then a 0", x.count(7), -1);
        Due.is("nothing TORN: five were put", x.count(4), 0);
    }

    private static void sixthAndSeventh() {
        Due.about("Terms 1", "A BIT 1: it is put, if there are 5 ONES at most with it; the 6th is not; "
            + "the 7th ends what was put: LOST, till the next MARK.");
        int[] due = {8, 8, 8, 8, 8, 8, 7, -1};
        for (int ones = 0; ones < 8; ones++) {
            ShipVoices x = heard(Wire.MARK + "0".repeat(8 - ones) + "1".repeat(ones));
            Due.is(ones + " ONES at the end", x.count(7), due[ones]);
        }
        for (int more = 0; more <= 8; more++) {
            ShipVoices x = heard(Wire.MARK + "0" + "1".repeat(7 + more) + "0".repeat(8 - more));
            Due.is(7 + more + " ONES", x.count(7), -1);
        }
        Due.is("ONES behind a MARK count from its 0 on", heard(Wire.MARK + "11111000").count(7), 7);
    }

    private static void lostTillMark() {
        Due.about("Terms 1", "the 7th ends what was put: LOST, till the next MARK.");
        ShipVoices x = new ShipVoices();
        Wire wire = new Wire(x);
        wire.hear(0, Wire.MARK + LOSING);
        String[] without = {"00000000", "01010101", "01111101", "01111100", "11111011", LOSING, "11111111", "00011111",
            "00000000"};
        for (String bits : without) {
            wire.hear(0, bits);
            Due.is("LOST behind " + bits, x.count(7), -1);
        }
        wire.hear(0, "00111111");
        Due.is("a MARK without its last 0", x.count(7), -1);
        wire.hear(0, "00000000");
        Due.is("its last 0, and seven more", x.count(7), 7);
        ShipVoices z = heard(Wire.MARK + LOSING + Wire.MARK);
        Due.is("a MARK straight behind, its 0 the one that is nothing", z.count(7), 0);
    }

    private static void leftOut() {
        Due.about("Terms 1", "A BIT 0: behind 5 ONES it is left out;");
        Due.is("behind 4 it is put", heard(Wire.MARK + "00011110").count(7), 8);
        Due.is("behind 5 it is not", heard(Wire.MARK + "00111110").count(7), 7);
        Due.is("the next one is", heard(Wire.MARK + "01111100").count(7), 7);
        Due.is("five, and five again", heard(Wire.MARK + "0000" + "111110111110").count(7), 14);
        ShipVoices x = new ShipVoices();
        Wire wire = new Wire(x);
        wire.hear(0, Wire.MARK + "00011111");
        wire.hear(0, "00000000");
        Due.is("left out as the first of the next tape", x.count(7), 15);
        ShipVoices z = new ShipVoices();
        Wire read = new Wire(z);
        Due.is("it is not in the PIECE", read.send(0, Wire.position(1048575, -1, -1, -1, -1)), 1);
        Due.is("its v", z.message(0, 7), -1);
    }

    private static void endOfMark() {
        Due.about("Terms 1", "behind 6 it ends a MARK: what was put since the latest MARK, but for its last 6 BITS, is a PIECE");
        String body = Wire.body(GOOD);
        ShipVoices y = new ShipVoices();
        Wire half = new Wire(y);
        String upTo = Wire.MARK.repeat(2) + body + "0111111";
        String padded = "0".repeat((8 - upTo.length() % 8) % 8) + upTo;
        Due.is("up to the sixth ONE", half.hear(0, padded), 0);
        Due.is("the 0 behind it", half.hear(0, "00000000"), 1);
        Due.is("seven BITS 0 are put behind", y.count(7), 7);
        ShipVoices z = new ShipVoices();
        Wire other = new Wire(z);
        Due.is("one MARK ends a PIECE and is the latest for the next", other.hear(0, Wire.MARK + (body + Wire.MARK).repeat(3)), 3);
        Due.is("none TORN", z.count(4), 0);
    }

    private static void lastSixTakenOff() {
        Due.about("Terms 1", "behind 6 it ends a MARK: what was put since the latest MARK, but for its last 6 BITS, is a PIECE");
        ShipVoices x = new ShipVoices();
        Wire wire = new Wire(x);
        wire.hear(0, Wire.MARK + Wire.MARK.substring(1).repeat(3));
        Due.is("MARKS that share a 0: five BITS put are no PIECE", x.count(4), 0);
        // Five ONES without a 0 to leave out: the MARK's own 0 is left out, so one of the five is taken off.
        wire.hear(0, Wire.MARK + "0".repeat(19) + "11111" + Wire.MARK);
        Due.is("24 BITS put ahead, 23 of them in the PIECE", x.count(4), 0);
        wire.hear(0, Wire.MARK + "0".repeat(20) + "11111" + Wire.MARK);
        Due.is("25 BITS put ahead, 24 of them in the PIECE", x.count(4), 1);
        String piece = endingInFourOnes();
        Due.is("a FRAME, one ONE more behind it", wire.hear(0, Wire.MARK + Wire.stuffed(piece) + "1" + Wire.MARK), 1);
        Due.is("is read without that one", x.message(0, 0), 5);
    }

    private static String endingInFourOnes() {
        for (int ship = 0; ship < 10000; ship++) {
            String message = Wire.claim(ship, 0, 1);
            String piece = message + Wire.check(message);
            if (piece.endsWith("01111")) {
                return piece;
            }
        }
        return "";
    }

    private static void noPiece() {
        Due.about("Terms 1", "(none, if it was LOST, or at first ahead of any MARK)");
        String body = Wire.body(GOOD);
        ShipVoices x = new ShipVoices();
        Wire wire = new Wire(x);
        Due.is("a FRAME's BITS between LOST and a MARK", wire.hear(0, Wire.MARK + LOSING + "0" + body + Wire.MARK), 0);
        Due.is("are not TORN", x.count(4), 0);
        Due.is("nor lost for the next", wire.hear(0, Wire.MARK + body + Wire.MARK), 1);
        ShipVoices z = new ShipVoices();
        Wire first = new Wire(z);
        Due.is("a FRAME's BITS ahead of any MARK", first.hear(0, body + Wire.MARK), 0);
        Due.is("are not TORN", z.count(4), 0);
        Due.is("put since", z.count(7), (8 - (body.length() + 8) % 8) % 8);
        ShipVoices torn = new ShipVoices();
        Wire noise = new Wire(torn);
        noise.hear(1, "01".repeat(60) + Wire.MARK);
        Due.is("noise ahead of any MARK", torn.count(4), 0);
        Due.is("the MARK behind it", torn.count(8), 0);
    }

    private static void putAnew() {
        Due.about("Terms 1", ", and from here on BITS are put anew;");
        Due.is("none just behind a MARK", heard(Wire.MARK).count(7), 0);
        Due.is("none behind a second one", heard(Wire.MARK + "00000000" + Wire.MARK).count(7), 0);
        Due.is("none behind one that shares its 0", heard("0" + Wire.MARK + "1111110").count(7), 0);
        Due.is("one", heard("0000000" + Wire.MARK + "0").count(7), 1);
        ShipVoices x = new ShipVoices();
        Wire wire = new Wire(x);
        wire.hear(0, Wire.MARK + "0".repeat(200) + Wire.MARK + "0".repeat(296));
        Due.is("BITS ahead of the latest MARK do not count to 300", x.count(7), 296);
    }

    private static void elsePut() {
        Due.about("Terms 1", "else it is put.");
        for (int ones = 0; ones < 5; ones++) {
            String bits = "0".repeat(7 - ones) + "1".repeat(ones) + "0";
            Due.is("a 0 behind " + ones, heard(Wire.MARK + bits).count(7), 8);
        }
        Due.is("a 0 straight behind a MARK", heard(Wire.MARK + "01111000").count(7), 8);
    }
}
