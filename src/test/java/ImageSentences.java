/** Sentences of promises 31 to 33: image, octet, on. */
final class ImageSentences {
    private static final long ALL_OF_TEN = (1L << 45) - 1;

    static void ask(Sentences s) {
        s.of("Terms III", "`NONE = -1`: There is none; it is refused.").due("NONE", TieStreet.NONE, -1);
        images(s);
        octets(s);
        goodOnes(s);
        noImages(s);
        allStays(s);
    }

    private static TieStreet people(Checks c, int n, String more) {
        return c.street(TextSentences.people(n) + more);
    }

    private static int[] image(int persons, long net, int lifted) {
        int[] bytes = new int[10];
        bytes[0] = persons;
        for (int i = 1; i <= 6; i++) {
            bytes[i] = (int) (net >> 48 - 8 * i) & 255;
        }
        bytes[7] = lifted >> 8 & 255;
        bytes[8] = lifted & 255;
        for (int i = 0; i < 9; i++) {
            bytes[9] ^= bytes[i];
        }
        return bytes;
    }

    private static boolean on(TieStreet x, int... bytes) {
        Checks.feed(x, 0, bytes);
        return x.on();
    }

    private static void octets(Checks c, TieStreet x, int[] want) {
        for (int k = 0; k < 10; k++) {
            c.due("octet(" + k + ")", x.octet(k), want[k]);
        }
    }

    private static void images(Sentences s) {
        Checks c = s.of(31, "10 bytes: the PERSONS; the NET (six bytes, the highest first); EXTRA and 1000 (two bytes); all "
                + "ahead xored: how many (10).");
        TieStreet x = new TieStreet();
        c.due("image() of nobody", x.image(), 10);
        octets(c, x, new int[] {0, 0, 0, 0, 0, 0, 0, 3, 232, 3 ^ 232});
        x = people(c, 10, "");
        x.net(ALL_OF_TEN);
        x.extra(1000);
        c.due("image() of all TIES and the greatest EXTRA", x.image(), 10);
        octets(c, x, new int[] {10, 31, 255, 255, 255, 255, 255, 7, 208, 10 ^ 31 ^ 255 ^ 7 ^ 208});
        x.net(1L << 44);
        x.extra(-1000);
        c.due("image() of the last TIE and the least EXTRA", x.image(), 10);
        octets(c, x, new int[] {10, 16, 0, 0, 0, 0, 0, 0, 0, 10 ^ 16});
        x.net(0x010203040506L);
        x.extra(-744);
        c.due("image() of six unlike bytes", x.image(), 10);
        octets(c, x, new int[] {10, 1, 2, 3, 4, 5, 6, 1, 0, 10 ^ 1 ^ 2 ^ 3 ^ 4 ^ 5 ^ 6 ^ 1});
        x.extra(-745);
        x.image();
        c.due("octet(7)", x.octet(7), 0);
        c.due("octet(8)", x.octet(8), 255);
    }

    private static void octets(Sentences s) {
        Checks c = s.of(32, "Byte k of the latest image()");
        TieStreet x = people(c, 3, "");
        x.net(5);
        x.image();
        x.net(7);
        x.extra(9);
        c.due("what changed later is not in it", x.octet(6), 5);
        c.due("its EXTRA", x.octet(8), 232);
        Checks.land(x, "who a at 0;");
        c.due("it outlasts a LAND", x.octet(0), 3);
        x.image();
        c.due("the latest of two", x.octet(0), 1);

        c = s.of(32, "NONE when there is none such.");
        for (int k : new int[] {-1, 10, Integer.MIN_VALUE, Integer.MAX_VALUE}) {
            c.due("octet(" + k + ")", x.octet(k), -1);
        }
        c.due("octet(9)", x.octet(9), 1 ^ 3 ^ 232);
        x = people(c, 3, "");
        for (int k = 0; k < 10; k++) {
            c.due("ahead of any, octet(" + k + ")", x.octet(k), -1);
        }
        on(x, image(3, 7, 1000));
        c.due("on() makes no image", x.octet(0), -1);
    }

    private static void goodOnes(Sentences s) {
        Checks c = s.of(33, "The tape (it goes) is AN IMAGE: true, THE NET and EXTRA are as it tells");
        TieStreet x = people(c, 10, "");
        long[] nets = {0, 1, 1L << 44, ALL_OF_TEN, 0x123456789abcL & ALL_OF_TEN};
        for (long net : nets) {
            for (int extra : new int[] {-1000, -1, 0, 1, 1000}) {
                x.net(5);
                x.extra(77);
                c.due("on() of " + net + " and " + extra, on(x, image(10, net, extra + 1000)), true);
                c.due("net()", x.net(), net);
                c.due("has(4)", x.has(4), extra);
                c.due("the tape went", x.end(1), false);
            }
        }
        x = new TieStreet();
        c.due("of nobody", on(x, image(0, 0, 2000)), true);
        c.due("has(4)", x.has(4), 1000);
        x = people(c, 2, "most a 1;");
        c.due("as many TIES as the most", on(x, image(2, 1, 1000)), true);
        x.extra(4);
        x.image();
        int[] own = new int[10];
        for (int k = 0; k < 10; k++) {
            own[k] = x.octet(k);
        }
        x.net(0);
        x.extra(0);
        c.due("its own image", on(x, own), true);
        c.due("net()", x.net(), 1);
        c.due("has(4)", x.has(4), 4);
    }

    private static void noImages(Sentences s) {
        Checks c = s.of(33, "false when it is none, of another number of PERSONS, or can't be");
        TieStreet x = people(c, 3, "bar a b;most c 1;");
        c.due("an empty tape", x.on(), false);
        c.due("nine bytes", on(x, 3, 0, 0, 0, 0, 0, 4, 3, 232), false);
        c.due("nine bytes that xor to 0", on(x, 3, 0, 0, 0, 0, 0, 4, 3, 4), false);
        int[] good = image(3, 4, 1000);
        int[] longer = new int[11];
        System.arraycopy(good, 0, longer, 0, 10);
        c.due("eleven bytes, the last of them 0", on(x, longer), false);
        x.feed(3, 0, 0, 0, 0);
        c.due("twenty bytes", x.on(), false);
        for (int k = 0; k < 10; k++) {
            int[] wrong = good.clone();
            wrong[k] ^= 128;
            c.due("byte " + k + " is wrong", on(x, wrong), false);
        }
        c.due("a text", on(x, Checks.bytesOf("who a at 0;")), false);
        c.due("of two", on(x, image(2, 0, 1000)), false);
        c.due("of four", on(x, image(4, 0, 1000)), false);
        c.due("of nobody", on(x, image(0, 0, 1000)), false);
        c.due("of 255", on(x, image(255, 0, 1000)), false);
        c.due("a barred TIE", on(x, image(3, 1, 1000)), false);
        c.due("more TIES than the most", on(x, image(3, 6, 1000)), false);
        c.due("one PAIR too many", on(x, image(3, 8, 1000)), false);
        c.due("the highest bit of all", on(x, image(3, 1L << 47, 1000)), false);
        c.due("EXTRA 1001", on(x, image(3, 4, 2001)), false);
        c.due("EXTRA 64535", on(x, image(3, 4, 65535)), false);
        c.due("none of these was taken", x.net(), 0);
        c.due("none of these was taken", x.has(4), 0);
        c.due("but the good one is", on(x, good), true);
        c.due("EXTRA 1000", on(x, image(3, 4, 2000)), true);
        c.due("the 46th PAIR of ten", on(people(c, 10, ""), image(10, 1L << 45, 1000)), false);
    }

    private static void allStays(Sentences s) {
        Checks c = s.of(33, "(all stays)");
        TieStreet x = people(c, 3, "news 1 when ways = 1;most c 1;");
        x.rest(1);
        x.go();
        x.all(0, false);
        x.coming();
        x.lie(0);
        x.image();
        x.net(4);
        x.extra(3);
        long[] ahead = told(x);
        int[][] wrong = {image(4, 1, 1007), image(3, 6, 1007), image(3, 8, 1007), image(3, 1, 2001), {1, 2, 3}};
        for (int[] each : wrong) {
            c.due("on()", on(x, each), false);
            long[] then = told(x);
            for (int i = 0; i < then.length; i++) {
                c.due("what was told, " + i, then[i], ahead[i]);
            }
            c.due("the tape goes all the same", x.end(1), false);
        }
    }

    private static long[] told(TieStreet x) {
        return new long[] {x.net(), x.has(0), x.has(3), x.has(4), x.bars(0), x.bars(1), x.bars(2), x.ring(0), x.one(0),
            x.one(1), x.comes(0, false), x.lied(), x.octet(0), x.octet(6), x.fault(0), x.worth(-1)};
    }
}
