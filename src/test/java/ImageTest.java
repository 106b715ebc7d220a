/** Promises 31 to 33: image, octet, on. */
public final class ImageTest {
    private static final String TEN = "who a at 0;who b at 1;who c at 2;who d at 3;who e at 4;"
            + "who f at 5;who g at 6;who h at 7;who i at 8;who j at 9;";

    public static void main(String[] args) {
        Checks c = new Checks();
        images(c);
        goodOnes(c);
        badOnes(c);
        c.finish();
    }

    private static int[] octets(TieStreet x) {
        int[] bytes = new int[10];
        for (int k = 0; k < 10; k++) {
            bytes[k] = x.octet(k);
        }
        return bytes;
    }

    private static int[] image(int persons, long net, int lifted) {
        int[] bytes = {persons, (int) (net >> 40) & 255, (int) (net >> 32) & 255, (int) (net >> 24) & 255,
            (int) (net >> 16) & 255, (int) (net >> 8) & 255, (int) net & 255, lifted >> 8, lifted & 255, 0};
        for (int i = 0; i < 9; i++) {
            bytes[9] ^= bytes[i];
        }
        return bytes;
    }

    private static boolean on(TieStreet x, int[] bytes) {
        Checks.feed(x, 0, bytes);
        return x.on();
    }

    private static void images(Checks c) {
        TieStreet x = c.street(TEN);
        long net = 0x123456789abcL;
        c.due("net", x.net(net), true);
        x.extra(-1000);
        c.due("octet(0) ahead", x.octet(0), -1);
        c.due("image()", x.image(), 10);
        int[] want = {10, 0x12, 0x34, 0x56, 0x78, 0x9a, 0xbc, 0, 0, 10 ^ 0x12 ^ 0x34 ^ 0x56 ^ 0x78 ^ 0x9a ^ 0xbc};
        for (int k = 0; k < 10; k++) {
            c.due("octet(" + k + ")", x.octet(k), want[k]);
        }
        c.due("octet(10)", x.octet(10), -1);
        c.due("octet(-1)", x.octet(-1), -1);
        x.extra(1000);
        x.net(0);
        c.due("octet(1) stays", x.octet(1), 0x12);
        x.image();
        c.due("octet(7)", x.octet(7), 7);
        c.due("octet(8)", x.octet(8), 208);
        c.due("octet(9)", x.octet(9), 10 ^ 7 ^ 208);
    }

    private static void goodOnes(Checks c) {
        TieStreet x = c.street(TEN);
        x.net(0x123456789abcL);
        x.extra(-17);
        x.image();
        int[] bytes = octets(x);
        x.net(0);
        x.extra(5);
        x.rest(4);
        x.go();
        c.due("on()", on(x, bytes), true);
        c.due("net()", x.net(), 0x123456789abcL);
        c.due("has(4)", x.has(4), -17);
        c.due("ring(0) stays", x.ring(0), 0);
        c.due("the tape has gone", x.end(1), false);
        c.due("on() without a tape", x.on(), false);
        TieStreet none = new TieStreet();
        none.extra(9);
        c.due("on() without persons", on(none, image(0, 0, 1234)), true);
        c.due("has(4)", none.has(4), 234);
        c.due("the least EXTRA", on(none, image(0, 0, 0)), true);
        c.due("has(4)", none.has(4), -1000);
        c.due("the greatest EXTRA", on(none, image(0, 0, 2000)), true);
        c.due("has(4)", none.has(4), 1000);
        c.due("one more", on(none, image(0, 0, 2001)), false);
        c.due("65535", on(none, image(0, 0, 65535)), false);
        c.due("has(4) stays", none.has(4), 1000);
    }

    private static void badOnes(Checks c) {
        TieStreet x = c.street("who a at 0; who b at 0; who c at 0; bar a b; most c 1;");
        x.net(2);
        x.extra(3);
        c.due("it is good", on(x, image(3, 4, 1000)), true);
        c.due("net()", x.net(), 4);
        x.extra(3);
        c.due("of two persons", on(x, image(2, 0, 1000)), false);
        c.due("of four persons", on(x, image(4, 0, 1000)), false);
        c.due("barred", on(x, image(3, 1, 1000)), false);
        c.due("more ties than may be", on(x, image(3, 6, 1000)), false);
        c.due("no such net", on(x, image(3, 8, 1000)), false);
        c.due("no such net at all", on(x, image(3, 1L << 47, 1000)), false);
        int[] wrong = image(3, 2, 1000);
        wrong[9] ^= 1;
        c.due("wrong last byte", on(x, wrong), false);
        c.due("the tape has gone", x.end(1), false);
        int[] shorter = new int[9];
        System.arraycopy(image(3, 0, 1000), 0, shorter, 0, 9);
        c.due("nine bytes", on(x, shorter), false);
        int[] longer = new int[11];
        System.arraycopy(image(3, 0, 1000), 0, longer, 0, 10);
        c.due("eleven bytes", on(x, longer), false);
        c.due("net() stays", x.net(), 4);
        c.due("has(4) stays", x.has(4), 3);
    }
}
