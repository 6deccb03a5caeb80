/** Promises 1 (a new object) to 5 (wait): each sentence that names a boundary case. */
public final class EdgeTapeTest {
    private static final int MOST = Integer.MAX_VALUE;
    private static final int LEAST = Integer.MIN_VALUE;

    public static void main(String[] args) {
        newObject();
        objectsApart();
        feedBehind();
        feedTooMany();
        endCuts();
        endRefused();
        hearEmpties();
        hearCounts();
        noSuchChannel();
        waitGoesOn();
        waitRefused();
        last();
        Due.finish();
    }

    private static void newObject() {
        Due.about("Promise 1", "Nothing heard, NOW 0, an empty LOG, tape, OUT; nothing parted, no MEETING.");
        ShipVoices x = new ShipVoices();
        int[] counts = {0, 0, 0, 0, 0, 0, 0, -1, -1};
        for (int what = 0; what < 9; what++) {
            Due.is("count(" + what + ")", x.count(what), counts[what]);
        }
        Due.none("message(0, 0)", () -> x.message(0, 0));
        Due.none("octet(0)", () -> x.octet(0));
        Due.isTrue("end(0)", x.end(0));
        Due.isFalse("end(1)", x.end(1));
        Due.is("cost()", x.cost(), 0);
        for (int what = 0; what < 3; what++) {
            Due.is("parted(0, " + what + ")", x.parted(0, what), -1);
        }
        Due.is("clashes()", x.clashes(), 0);
        Due.none("clash(0, 0)", () -> x.clash(0, 0));
        Due.is("texts()", x.texts(), 0);
        Due.none("text(0, 0)", () -> x.text(0, 0));
        Due.none("letter(0, 0)", () -> x.letter(0, 0));
        Due.is("when()", x.when(), -1);
        Due.is("meet(0, 1)", x.meet(0, 1), -1);
        Due.is("size(0)", x.size(0), -1);
        Due.is("part(0, 1)", x.part(0, 1), -1);
        Due.is("hear(0) of nothing", x.hear(0), 0);
        Due.is("hear(1) of nothing", x.hear(1), 0);
    }

    private static void objectsApart() {
        Due.about("Promise 1", "Nothing heard, NOW 0, an empty LOG, tape, OUT; nothing parted, no MEETING.");
        ShipVoices x = new ShipVoices();
        Wire wire = new Wire(x);
        wire.sendAll(0, Wire.position(1, 0, 0, 0, 0), Wire.position(2, 3, 4, 0, 0));
        x.part(1, 1);
        x.meet(1, 2);
        x.build(3, 1, 1, 0, 0, 0);
        x.feed(1, 2, 3, 4, 5);
        x.wait(9);
        ShipVoices z = new ShipVoices();
        int[] counts = {0, 0, 0, 0, 0, 0, 0, -1, -1};
        for (int what = 0; what < 9; what++) {
            Due.is("another new object's count(" + what + ")", z.count(what), counts[what]);
        }
        Due.is("its parted(0, 0)", z.parted(0, 0), -1);
        Due.is("its when()", z.when(), -1);
        Due.is("the first one's NOW", x.count(0), 9);
    }

    private static void feedBehind() {
        Due.about("Promise 2", "Twenty bytes come behind the tape, of each number the highest first: how many it has;");
        ShipVoices x = new ShipVoices();
        int[] bytes = new int[20];
        String bits = Wire.frame(Wire.position(9, 1, 2, 3, 4)) + "0".repeat(160);
        int level = 0;
        for (int k = 0; k < 160; k++) {
            level = bits.charAt(k) == '1' ? level : 1 - level;
            bytes[k / 8] = bytes[k / 8] * 2 + level;
        }
        int[] w = Wire.words(bytes, 0);
        Due.is("twenty", x.feed(w[0], w[1], w[2], w[3], w[4]), 20);
        Due.is("forty", x.feed(0x55555555, 0x55555555, 0x55555555, 0x55555555, 0x55555555), 40);
        Due.is("heard", x.hear(0), 1);
        Due.is("its v, of the last bytes", x.message(0, 7), 4);
        Due.is("from none on again", x.feed(-1, -1, -1, -1, -1), 20);
        Due.isTrue("end(3)", x.end(3));
        Due.is("behind three", x.feed(0, 0, 0, 0, 0), 23);
        ShipVoices z = new ShipVoices();
        z.feed(-1, -1, -1, -1, -1);
        z.end(0);
        z.feed(0x02ffffff, 0, 0, 0, 0);
        z.end(1);
        z.hear(0);
        Due.is("what was cut away is not there any more", z.count(7), 1);
    }

    private static void feedTooMany() {
        Due.about("Promise 2", "NONE, and none come, if it would have more than 400.");
        ShipVoices x = new ShipVoices();
        // A MARK with the last byte: behind the whole tape there is nothing put.
        for (int k = 1; k <= 19; k++) {
            Due.is("feed " + k, x.feed(0x55555555, 0x55555555, 0x55555555, 0x55555555, 0x55555555), 20 * k);
        }
        Due.is("up to 400", x.feed(0x55555555, 0x55555555, 0x55555555, 0x55555555, 0x55555501), 400);
        Due.is("to 420", x.feed(0, 0, 0, 0, 0), -1);
        Due.is("none came", x.count(5), 400);
        Due.isFalse("end(401)", x.end(401));
        Due.is("again", x.feed(0x55555555, 0x55555555, 0x55555555, 0x55555555, 0x55555555), -1);
        x.hear(0);
        Due.is("the tape was heard up to its last byte and no further", x.count(7), 0);
        Due.is("room again", x.feed(1, 2, 3, 4, 5), 20);
        for (int k = 2; k <= 20; k++) {
            x.feed(1, 2, 3, 4, 5);
        }
        x.end(381);
        Due.is("to 401", x.feed(1, 2, 3, 4, 5), -1);
        Due.is("none came", x.count(5), 381);
        x.end(380);
        Due.is("to 400", x.feed(1, 2, 3, 4, 5), 400);
    }

    private static void endCuts() {
        Due.about("Promise 3", "The tape has its first n bytes alone: true;");
        ShipVoices x = new ShipVoices();
        Due.isTrue("0 of none", x.end(0));
        x.feed(0xfe558055, 0, 0, 0, 0);
        Due.isTrue("all of it", x.end(20));
        Due.is("twenty", x.count(5), 20);
        Due.isTrue("two", x.end(2));
        Due.is("two", x.count(5), 2);
        Due.isTrue("two again", x.end(2));
        x.hear(0);
        Due.is("its first two: a MARK and eight BITS", x.count(7), 8);
        x.feed(0, 0, 0, 0, 0);
        Due.isTrue("none", x.end(0));
        Due.is("none", x.count(5), 0);
        x.hear(0);
        Due.is("nothing was heard", x.count(7), 8);
    }

    private static void endRefused() {
        Due.about("Promise 3", "false, if it has not so many, or n is below 0.");
        ShipVoices x = new ShipVoices();
        Due.isFalse("1 of none", x.end(1));
        Due.isFalse("-1 of none", x.end(-1));
        x.feed(1, 2, 3, 4, 5);
        int[] refused = {21, 40, 400, 401, MOST, -1, -20, LEAST};
        for (int n : refused) {
            Due.isFalse("end(" + n + ")", x.end(n));
            Due.is("the tape stays", x.count(5), 20);
        }
        x.end(5);
        Due.isFalse("what was cut does not come back", x.end(6));
        Due.is("the tape stays", x.count(5), 5);
        x.hear(0);
        Due.isFalse("1 of a tape that was heard", x.end(1));
    }

    private static void hearEmpties() {
        Due.about("Promise 4", "The tape's bytes (empty then) are LEVELS on a CHANNEL: how many MESSAGES were READ;");
        for (int channel = 0; channel < 2; channel++) {
            ShipVoices x = new ShipVoices();
            x.feed(0x55555555, 0, 0, 0, 0);
            Due.is("no MESSAGE", x.hear(channel), 0);
            Due.is("empty then", x.count(5), 0);
            Due.isFalse("it has no first byte", x.end(1));
            int before = x.count(7 + channel);
            Due.is("an empty tape", x.hear(channel), 0);
            Due.is("changes nothing", x.count(7 + channel), before);
        }
        ShipVoices x = new ShipVoices();
        Wire.feed(x, 0xfe);
        x.hear(0);
        Due.is("a byte is heard once", x.hear(1), 0);
        Due.is("not on 1", x.count(8), -1);
    }

    private static void hearCounts() {
        Due.about("Promise 4", "The tape's bytes (empty then) are LEVELS on a CHANNEL: how many MESSAGES were READ;");
        ShipVoices x = new ShipVoices();
        Wire wire = new Wire(x);
        String good = Wire.body(Wire.claim(7, 100, 3)) + Wire.MARK;
        String strange = Wire.body("01010101") + Wire.MARK;
        String torn = "0".repeat(40) + Wire.MARK;
        Due.is("STRANGE ones are READ, TORN ones are not", wire.hear(0, Wire.MARK + good + torn + strange + good), 3);
        Due.is("in the LOG", x.count(2), 3);
        Due.is("none", wire.hear(0, torn), 0);
        Due.is("of a whole tape", wire.hear(1, Wire.MARK + strange.repeat(96)), 96);
        Due.is("READ", x.count(1), 99);
        wire.hear(1, Wire.MARK + strange.repeat(96));
        wire.hear(0, Wire.MARK + strange.repeat(4));
        Due.is("with 199 in the LOG, two are READ", wire.hear(0, Wire.MARK + good + good), 2);
        Due.is("200 in the LOG", x.count(2), 200);
        Due.is("behind 200, too", wire.hear(1, Wire.MARK + good), 1);
    }

    private static void noSuchChannel() {
        Due.about("Promise 4", "NONE: no such CHANNEL (the tape stays).");
        int[] others = {-1, 2, 3, LEAST, MOST, 1 << 16, 256};
        for (int channel : others) {
            ShipVoices x = new ShipVoices();
            Due.is("hear(" + channel + ") of an empty tape", x.hear(channel), -1);
            Wire.feed(x, 0xfe, 0x55, 0x55);
            Due.is("hear(" + channel + ")", x.hear(channel), -1);
            Due.is("the tape stays", x.count(5), 3);
            Due.is("nothing heard on 0", x.count(7), -1);
            Due.is("nothing heard on 1", x.count(8), -1);
            Due.is("now on 1", x.hear(1), 0);
            Due.is("as it was fed", x.count(8), 16);
        }
    }

    private static void waitGoesOn() {
        Due.about("Promise 5", "NOW goes on by so many SECONDS (0 to 100000): true;");
        ShipVoices x = new ShipVoices();
        Due.isTrue("wait(0)", x.wait(0));
        Due.is("NOW", x.count(0), 0);
        Due.isTrue("wait(1)", x.wait(1));
        Due.is("NOW", x.count(0), 1);
        Due.isTrue("wait(100000)", x.wait(100000));
        Due.is("NOW", x.count(0), 100001);
        Due.isTrue("wait(99999)", x.wait(99999));
        Due.is("NOW", x.count(0), 200000);
    }

    private static void waitRefused() {
        Due.about("Promise 5", "false, if it is not so, or NOW would be above 2000000.");
        ShipVoices x = new ShipVoices();
        int[] refused = {-1, 100001, 2000000, LEAST, MOST, MOST - 1};
        for (int seconds : refused) {
            Due.isFalse("wait(" + seconds + ")", x.wait(seconds));
        }
        Due.is("NOW stays", x.count(0), 0);
        for (int k = 0; k < 19; k++) {
            x.wait(100000);
        }
        x.wait(1);
        Due.isFalse("above 2000000 by one", x.wait(100000));
        Due.is("NOW stays", x.count(0), 1900001);
        for (int seconds : refused) {
            Due.isFalse("wait(" + seconds + ")", x.wait(seconds));
        }
        Due.isTrue("just 2000000", x.wait(99999));
        Due.is("NOW", x.count(0), 2000000);
        Due.isFalse("wait(1)", x.wait(1));
        Due.isFalse("wait(-1)", x.wait(-1));
        Due.isFalse("wait(MOST)", x.wait(MOST));
        Due.isTrue("wait(0)", x.wait(0));
        Due.is("NOW", x.count(0), 2000000);
        new Wire(x).send(0, Wire.claim(1, 1, 1));
        Due.is("a MESSAGE's SECOND then", x.message(0, 3), 2000000);
    }

    private static void last() {
        Due.about("What it is", "An object is used for at most 512 calls after it has been made;");
        ShipVoices x = new ShipVoices();
        Wire.feed(x, 0xfe);
        x.hear(0);
        for (int call = 5; call < 512; call++) {
            x.hear(0);
        }
        Due.is("the 512th call is answered as the first", x.count(7), 0);
    }
}
