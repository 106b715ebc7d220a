/** Promises 8 to 13: net, shape, extra, worth, ways; what the rules of a LAND say of two PERSONS. */
public final class NetTest {
    private static final String TEN = "who a at 0;who b at 1;who c at 2;who d at 3;who e at 4;"
            + "who f at 5;who g at 6;who h at 7;who i at 8;who j at 9;";

    public static void main(String[] args) {
        Checks c = new Checks();
        nets(c);
        shapes(c);
        extras(c);
        waysBetween(c);
        worths(c);
        sums(c);
        tests(c);
        c.finish();
    }

    private static void nets(Checks c) {
        TieStreet x = c.street("who a at 0; who b at 0; who c at 0; who d at 0; bar c a; most b 1; most b 2; most d 0;");
        c.due("net(64)", x.net(64), false);
        c.due("net(MIN)", x.net(Long.MIN_VALUE), false);
        c.due("net(-1)", x.net(-1), false);
        c.due("net() stays", x.net(), 0);
        c.due("net(5)", x.net(5), true);
        c.due("net(2) is barred", x.net(2), false);
        c.due("net(7) is barred", x.net(7), false);
        for (int pair = 3; pair <= 5; pair++) {
            c.due("d may have no TIE", x.net(1L << pair), false);
        }
        c.due("net() stays", x.net(), 5);
        c.due("net(0)", x.net(0), true);
        c.due("net()", x.net(), 0);

        x = c.street("who a at 0; who b at 0; who c at 0; most a 2; most a 1;");
        c.due("the last most counts", x.net(3), false);
        c.due("net(1)", x.net(1), true);

        x = c.street(TEN);
        c.due("all ties of ten", x.net((1L << 45) - 1), true);
        c.due("has(5)", x.has(5), 45);
        c.due("net(2 to the 45)", x.net(1L << 45), false);
        c.due("net()", x.net(), (1L << 45) - 1);
    }

    private static void shapes(Checks c) {
        TieStreet x = c.street("who a at 0; who b at 0; who c at 0; who d at 0; who e at 0; bar a b;");
        // pairs: 01 02 12 03 13 23 04 14 24 34
        c.due("none", x.shape(0, 77), 0);
        c.due("all", x.shape(1, -5), 1023);
        c.due("star about 0", x.shape(2, 0), 1 | 2 | 8 | 64);
        c.due("star about 4", x.shape(2, 4), 64 | 128 | 256 | 512);
        c.due("line", x.shape(3, 99), 1 | 4 | 32 | 512);
        c.due("ring", x.shape(4, 99), 1 | 4 | 32 | 512 | 64);
        c.due("two parts, 0", x.shape(5, 0), 1023);
        c.due("two parts, 1", x.shape(5, 1), 4 | 16 | 32 | 128 | 256 | 512);
        c.due("two parts, 2", x.shape(5, 2), 1 | 32 | 256 | 512);
        c.due("two parts, 4", x.shape(5, 4), 63);
        c.due("two parts, 5", x.shape(5, 5), -1);
        c.due("wheel about 2", x.shape(6, 2), 1 | 16 | 512 | 64 | 2 | 4 | 32 | 256);
        c.due("wheel about 5", x.shape(6, 5), -1);
        c.due("star about -1", x.shape(2, -1), -1);
        c.due("shape 7", x.shape(7, 0), -1);
        c.due("shape -1", x.shape(-1, 0), -1);
        c.due("net() stays", x.net(), 0);

        x = c.street("who a at 0; who b at 0;");
        c.due("line of two", x.shape(3, 0), 1);
        c.due("ring of two", x.shape(4, 0), -1);
        c.due("star of two", x.shape(2, 1), 1);
        x = c.street("who a at 0; who b at 0; who c at 0;");
        c.due("ring of three", x.shape(4, 0), 7);
        c.due("wheel of three", x.shape(6, 0), -1);
        x = c.street("who a at 0;");
        c.due("star of one", x.shape(2, 0), 0);
        c.due("parts of one", x.shape(5, 0), 0);
        x = c.street(TEN);
        c.due("all of ten", x.shape(1, 0), (1L << 45) - 1);
    }

    private static void extras(Checks c) {
        TieStreet x = c.street("who a at 0; who b at 0;");
        c.due("extra(1000)", x.extra(1000), true);
        c.due("extra(1001)", x.extra(1001), false);
        c.due("extra(-1001)", x.extra(-1001), false);
        c.due("extra(MIN)", x.extra(Integer.MIN_VALUE), false);
        c.due("has(4)", x.has(4), 1000);
        x.net(1);
        c.due("EXTRA without a cost", x.worth(0), -1000);
        c.due("extra(-1000)", x.extra(-1000), true);
        c.due("worth(-1)", x.worth(-1), 2000);
    }

    private static void waysBetween(Checks c) {
        TieStreet x = c.street(TEN);
        x.net(x.shape(3, 0));
        c.due("ways(0, 9)", x.ways(0, 9), 9);
        c.due("ways(9, 0)", x.ways(9, 0), 9);
        c.due("ways(3, 3)", x.ways(3, 3), 0);
        x.net(x.shape(4, 0));
        c.due("ways(0, 5)", x.ways(0, 5), 5);
        c.due("ways(0, 6)", x.ways(0, 6), 4);
        x.net(x.shape(5, 4));
        c.due("ways(3, 4)", x.ways(3, 4), -1);
        c.due("ways(0, 3)", x.ways(0, 3), 1);
        c.due("ways(0, 10)", x.ways(0, 10), -1);
        c.due("ways(-1, 0)", x.ways(-1, 0), -1);
    }

    private static void worths(Checks c) {
        TieStreet x = c.street("who a at 0; who b at 7; who c at 9; cost 5 when is a; cost 2 when all; news 10 when ways = 1;");
        x.net(5);
        c.due("a: 10 of b, nothing of c, less 5", x.worth(0), 5);
        c.due("b: 20 less 4", x.worth(1), 16);
        c.due("c", x.worth(2), 8);
        c.due("in all", x.worth(-1), 29);
        x.extra(3);
        c.due("a with EXTRA", x.worth(0), 2);
        c.due("b with EXTRA, twice", x.worth(1), 10);
        c.due("worth(3)", x.worth(3), -1000000000000L);
        c.due("worth(-2)", x.worth(-2), -1000000000000L);
        c.due("worth(MAX)", x.worth(Integer.MAX_VALUE), -1000000000000L);
    }

    /** What a SUM gives to the first of two that are tied, at 0 and 7, in a NET of three TIES about a. */
    private static void sum(Checks c, String sum, long want) {
        TieStreet x = c.street("who a at 0; who b at 7; who c at 0; who d at 0; news " + sum + " when is a and miles = 7;");
        x.net(x.shape(2, 0));
        c.due(sum, x.worth(0), want);
    }

    private static void sums(Checks c) {
        sum(c, "ways", 1);
        sum(c, "miles", 7);
        sum(c, "mine", 3);
        sum(c, "theirs", 1);
        sum(c, "ties", 3);
        sum(c, "1 + 2 * 3", 7);
        sum(c, "(1 + 2) * 3", 9);
        sum(c, "10 - 4 - 3", 3);
        sum(c, "100 / 7 / 2", 7);
        sum(c, "100 / 7 * 7", 98);
        sum(c, "2 * 7 / 4", 3);
        sum(c, "(0 - 7) / 2", -4);
        sum(c, "7 / (0 - 2)", -4);
        sum(c, "(0 - 8) / 2", -4);
        sum(c, "(0 - 7) / (0 - 2)", 3);
        sum(c, "5 / 0", 0);
        sum(c, "min(3, 2) + max(4, 9)", 11);
        sum(c, "min(0 - 3, 2)", -3);
        sum(c, "9999 * 9999", 1000000);
        sum(c, "9999 * 9999 - 1 + 2 - 3", 999997);
        sum(c, "0 - 9999 * 9999 - 5", -1000000);
        sum(c, "0 - 9999 * 9999 * 9999", -1000000);
        sum(c, "9999 * 9999 / 1000 * 2", 2000);
        sum(c, "1000 * 1000 + 1 - 1", 999999);
    }

    private static void test(Checks c, String test, boolean want) {
        TieStreet x = c.street("who a at 0; who b at 7; news 1 when is a and [" + test + "];");
        x.net(1);
        c.due(test, x.worth(0), want ? 1 : 0);
    }

    private static void tests(Checks c) {
        test(c, "all", true);
        test(c, "is a", true);
        test(c, "is b", false);
        test(c, "not is b", true);
        test(c, "not not is b", false);
        test(c, "1 < 1", false);
        test(c, "1 < 2", true);
        test(c, "2 > 1", true);
        test(c, "1 > 1", false);
        test(c, "1 = 1", true);
        test(c, "miles = 7 and ways = 1", true);
        test(c, "all or all and not all", true);
        test(c, "[all or all] and not all", false);
        test(c, "not all and all or all", true);
        test(c, "not [all and not all]", true);
        test(c, "not all or not 1 > 2", true);

        TieStreet x = c.street("who a at 0; who b at 0; news 3 when is a; news 4 when all; news 5 when is b;"
                + "cost 1 when is b; cost 9 when is b;");
        x.net(1);
        c.due("the first news", x.worth(0), 3);
        c.due("the first that holds, and the first cost", x.worth(1), 3);
        x = c.street("who a at 0; who b at 0; news 3 when 1 > 2; cost 3 when 1 > 2;");
        x.net(1);
        c.due("none holds", x.worth(-1), 0);
    }
}
