/** Promises 1 to 3: a new object, feed, end. */
public final class TapeTest {
    public static void main(String[] args) {
        Checks c = new Checks();
        newObject(c);
        feeding(c);
        ending(c);
        c.finish();
    }

    private static void newObject(Checks c) {
        TieStreet x = new TieStreet();
        for (int what = 0; what <= 5; what++) {
            c.due("new has(" + what + ")", x.has(what), 0);
        }
        c.due("new net()", x.net(), 0);
        c.due("new end(0)", x.end(0), true);
        c.due("new end(1)", x.end(1), false);
        c.due("new fault(0)", x.fault(0), 0);
        c.due("new fault(1)", x.fault(1), -1);
        c.due("new bars(2)", x.bars(2), -1);
        c.due("new ring(1)", x.ring(1), -1);
        c.due("new one(0)", x.one(0), -1);
        c.due("new comes(0, false)", x.comes(0, false), -1);
        c.due("new lied()", x.lied(), -1000000000000L);
        c.due("new octet(9)", x.octet(9), -1);
    }

    private static void feeding(Checks c) {
        TieStreet x = new TieStreet();
        for (int i = 1; i <= 40; i++) {
            c.due("feed " + i, x.feed(0x20202020, 0x20202020, 0x20202020, 0x20202020, 0x20202020), 20 * i);
        }
        c.due("feed 41", x.feed(1, 2, 3, 4, 5), -1);
        c.due("the refused feed left 800 blanks", x.land(), 0);
        for (int i = 1; i <= 40; i++) {
            x.feed(0x20202020, 0x20202020, 0x20202020, 0x20202020, 0x20202020);
        }
        x.end(781);
        c.due("feed behind 781", x.feed(0, 0, 0, 0, 0), -1);
        x.end(780);
        c.due("feed behind 780", x.feed(0, 0, 0, 0, 0), 800);
        c.due("land()", x.land(), -1);
        c.due("a zero byte is no blank", x.fault(1), 780);

        // the highest byte of each number first
        c.due("feed", x.feed(0x77686f20, 0x61206174, 0x20313b20, 0x20202020, 0x20202078), 20);
        c.due("land()", x.land(), -1);
        c.due("fault(1)", x.fault(1), 19);
        c.due("feed of bytes above 127", x.feed(0xffffffff, 0, 0, 0, 0), 20);
        c.due("land()", x.land(), -1);
        c.due("fault(1)", x.fault(1), 0);
    }

    private static void ending(Checks c) {
        TieStreet x = new TieStreet();
        x.feed(0x77686f20, 0x61206174, 0x20313b78, 0x78787878, 0x78787878);
        c.due("end(21)", x.end(21), false);
        c.due("end(-1)", x.end(-1), false);
        c.due("end(MIN)", x.end(Integer.MIN_VALUE), false);
        c.due("end(MAX)", x.end(Integer.MAX_VALUE), false);
        c.due("end(20)", x.end(20), true);
        c.due("end(11)", x.end(11), true);
        c.due("end(12) behind end(11)", x.end(12), false);
        c.due("feed behind 11", x.feed(0x20202020, 0x20202020, 0x20202020, 0x20202020, 0x20202020), 31);
        c.due("end(11)", x.end(11), true);
        c.due("land()", x.land(), 1);
        c.due("the tape has gone", x.end(1), false);
    }
}
