/** Promises 1 (a new object), 2 (feed), 3 (end), 5 (wait). */
public final class TapeTest {
    public static void main(String[] args) {
        newObject();
        feeding();
        ending();
        waiting();
        Due.finish();
    }

    private static void newObject() {
        ShipVoices x = new ShipVoices();
        int[] counts = {0, 0, 0, 0, 0, 0, 0, -1, -1};
        for (int what = 0; what < counts.length; what++) {
            Due.is("new count(" + what + ")", x.count(what), counts[what]);
        }
        Due.is("NONE", ShipVoices.NONE, -1);
        Due.is("new clashes()", x.clashes(), 0);
        Due.is("new texts()", x.texts(), 0);
        Due.is("new cost()", x.cost(), 0);
        Due.is("new parted(0, 0)", x.parted(0, 0), -1);
        Due.is("new when()", x.when(), -1);
        Due.is("new size(0)", x.size(0), -1);
        Due.is("new meet(0, 1)", x.meet(0, 1), -1);
        Due.none("new octet(0)", () -> x.octet(0));
        Due.none("new message(0, 0)", () -> x.message(0, 0));
    }

    private static void feeding() {
        ShipVoices x = new ShipVoices();
        for (int k = 1; k <= 20; k++) {
            Due.is("feed " + k, x.feed(k, -k, 0, Integer.MIN_VALUE, Integer.MAX_VALUE), 20 * k);
        }
        Due.is("feed above 400", x.feed(1, 2, 3, 4, 5), -1);
        Due.is("tape is still full", x.count(5), 400);
        Due.isTrue("end(380)", x.end(380));
        Due.is("feed to 400", x.feed(1, 2, 3, 4, 5), 400);
        Due.isTrue("end(381)", x.end(381));
        Due.is("feed to 401", x.feed(1, 2, 3, 4, 5), -1);
        Due.is("none came", x.count(5), 381);
        highestByteFirst();
    }

    /** Of five numbers in order, each the highest byte first: a frame built is heard when fed so. */
    private static void highestByteFirst() {
        ShipVoices x = new ShipVoices();
        x.build(1, 1048575, -1, 32767, -128, 127);
        int[] words = new int[5];
        for (int k = 0; k < x.count(6); k++) {
            words[k / 4] |= x.octet(k) << 24 - k % 4 * 8;
        }
        x.feed(words[0], words[1], words[2], words[3], words[4]);
        Due.is("a fed frame is heard", x.hear(0), 1);
        Due.is("its ship", x.message(0, 1), 1048575);
    }

    private static void ending() {
        ShipVoices x = new ShipVoices();
        Due.isTrue("end(0) of none", x.end(0));
        Due.isFalse("end(1) of none", x.end(1));
        x.feed(1, 2, 3, 4, 5);
        Due.isFalse("end(-1)", x.end(-1));
        Due.isFalse("end(21)", x.end(21));
        Due.isFalse("end(least)", x.end(Integer.MIN_VALUE));
        Due.is("tape stays", x.count(5), 20);
        Due.isTrue("end(20)", x.end(20));
        Due.is("tape whole", x.count(5), 20);
        Due.isTrue("end(7)", x.end(7));
        Due.is("tape cut", x.count(5), 7);
        Due.isFalse("end(8) then", x.end(8));
        Due.is("feed behind 7", x.feed(1, 2, 3, 4, 5), 27);
        Due.isTrue("end(0)", x.end(0));
        Due.is("tape empty", x.count(5), 0);
    }

    private static void waiting() {
        ShipVoices x = new ShipVoices();
        Due.isFalse("wait(-1)", x.wait(-1));
        Due.isFalse("wait(100001)", x.wait(100001));
        Due.isFalse("wait(most)", x.wait(Integer.MAX_VALUE));
        Due.isTrue("wait(0)", x.wait(0));
        Due.is("now 0", x.count(0), 0);
        for (int k = 0; k < 20; k++) {
            Due.isTrue("wait(100000) " + k, x.wait(k < 19 ? 100000 : 99999));
        }
        Due.is("now", x.count(0), 1999999);
        Due.isFalse("wait(2)", x.wait(2));
        Due.is("now stays", x.count(0), 1999999);
        Due.isTrue("wait(1)", x.wait(1));
        Due.isFalse("wait(1) at the end", x.wait(1));
        Due.isTrue("wait(0) at the end", x.wait(0));
        Due.is("now at the end", x.count(0), 2000000);
    }
}
