/** Promises 19 to 24: all, one, best, loss, coming, comes. */
public final class FewTest {
    private static final String THREE = "who a at 0; who b at 0; who c at 0;";
    private static final String FIVE = THREE + "who d at 0; who e at 0;";

    public static void main(String[] args) {
        Checks c = new Checks();
        notFew(c);
        allNets(c);
        shapes(c);
        best(c);
        losses(c);
        coming(c);
        c.finish();
    }

    private static void notFew(Checks c) {
        for (String text : new String[] {"", "who a at 0;", FIVE + "who f at 0;"}) {
            TieStreet x = c.street(text);
            c.due("all of " + text, x.all(1, false), -1);
            c.due("best of " + text, x.best(), -1);
            c.due("loss of " + text, x.loss(1, false), -1);
            c.due("coming of " + text, x.coming(), -1);
            c.due("one of " + text, x.one(0), -1);
            c.due("comes of " + text, x.comes(0, true), -1);
        }
        TieStreet x = c.street("who a at 0; who b at 0;");
        c.due("all of two", x.all(5, false), 2);
        c.due("all(-1)", x.all(-1, false), -1);
        c.due("all(6)", x.all(6, false), -1);
        c.due("one(1) of the latest that was not NONE", x.one(1), 1);
        c.due("one(2)", x.one(2), -1);
        c.due("one(-1)", x.one(-1), -1);
        c.due("loss(-1)", x.loss(-1, false), -1);
        c.due("loss(6)", x.loss(6, true), -1);
        c.due("best", x.best(), 0);
    }

    private static void allNets(Checks c) {
        TieStreet x = c.street(THREE + "news 3 when ways = 1; bar a b;");
        c.due("all(0)", x.all(0, false), 4);
        for (int k = 0; k < 4; k++) {
            c.due("one(" + k + ")", x.one(k), 2 * k);
        }
        c.due("all(1)", x.all(1, false), 1);
        c.due("one(0)", x.one(0), 6);
        x.extra(4);
        c.due("what was told stays", x.one(0), 6);
        c.due("all(1) with EXTRA", x.all(1, false), 1);
        c.due("one(0)", x.one(0), 0);
        x.net(4);
        c.due("THE NET is not asked", x.all(1, false), 1);
        c.due("THE NET stays", x.net(), 4);

        x = c.street(FIVE);
        for (int kind = 0; kind <= 5; kind++) {
            c.due("all of five, kind " + kind, x.all(kind, false), 1024);
        }
        c.due("one(1023)", x.one(1023), 1023);
        c.due("one(1024)", x.one(1024), -1);
    }

    private static void shapes(Checks c) {
        TieStreet x = c.street(FIVE);
        int[] want = {0, 1, 3, 7, 11, 12, 13, 15, 30, 31, 63};
        c.due("shapes of five", x.all(0, true), 34);
        for (int k = 0; k < want.length; k++) {
            boolean there = false;
            for (int i = 0; i < 34; i++) {
                there |= x.one(i) == want[k];
            }
            c.due("shape " + want[k], there, true);
        }
        for (int k = 1; k < 34; k++) {
            c.due("rising", x.one(k) > x.one(k - 1), true);
        }
        c.due("one(34)", x.one(34), -1);
        c.due("shapes of four", c.street(THREE + "who d at 0;").all(3, true), 11);

        // of those at rest alone: one tie of b with c stands for the shape, if a has none
        x = c.street(THREE + "news 5 when ways = 1; most a 0;");
        c.due("all(1)", x.all(1, true), 1);
        c.due("one(0)", x.one(0), 4);
        c.due("all(0)", x.all(0, true), 2);
        c.due("one(1)", x.one(1), 4);
    }

    private static void best(Checks c) {
        TieStreet x = c.street(THREE + "news 4 when ways = 1; news 3 when all; cost 2 when all;");
        // one tie: 4; two: 4 * 4 + 6 - 8 = 14; three: 24 - 12 = 12
        c.due("best of several", x.best(), 3);
        x = c.street(THREE + "news 4 when ways = 1; news 3 when all; cost 2 when all; most a 1;");
        c.due("best that may be", x.best(), 5);
        x = c.street(THREE + "cost 2 when all;");
        c.due("best is none", x.best(), 0);
        c.due("best is the first tie", c.street(THREE + "news 2 when ties = 1;").best(), 1);
        c.due("best is all ties", c.street(THREE + "news 2 when ties = 3;").best(), 7);
        x.extra(-3);
        c.due("best with EXTRA", x.best(), 7);
        c.due("THE NET stays", x.net(), 0);
    }

    private static void losses(Checks c) {
        TieStreet x = c.street(THREE + "news 4 when ways = 1; news 3 when all; cost 2 when all;");
        // kind 0: all but the one with three ties, which gives 12; none gives 0
        c.due("loss(0, false)", x.loss(0, false), 0);
        c.due("loss(0, true)", x.loss(0, true), 14);
        // a ring of three: cutting one tie makes 4 - 2 of it 3, so each gains
        c.due("all(1)", x.all(1, false), 3);
        c.due("loss(1, true)", x.loss(1, true), 0);

        x = c.street(THREE + "news 10 when ties = 3; cost 1 when all;");
        c.due("loss(1, false)", x.loss(1, false), 0);
        c.due("loss(1, true)", x.loss(1, true), 54);
        c.due("loss(5, true)", x.loss(5, true), 0);

        // a always wants one more or one less
        x = c.street("who a at 0; who b at 0; news 1 when is a; cost 2 when is b;");
        c.due("at rest together: none tied", x.loss(4, false), 0);
        // two who can't leave it at that: tied, b cuts; not tied, a gains and b does not lose
        x = c.street("who a at 0; who b at 0; news 1 when is a; news 0 - 1 when is b and ties = 1; cost 0 - 1 when is b;");
        c.due("all(1)", x.all(1, false), 1);
        c.due("loss(1, true)", x.loss(1, true), 0);
        // more ties lead further, but each one makes all news less: there is always one to make or to cut
        x = c.street(THREE + "who d at 0; news 17 / ties when all;");
        c.due("none is at rest", x.all(1, false), 0);
        c.due("one(0)", x.one(0), -1);
        c.due("loss(1, false)", x.loss(1, false), -1);
        c.due("loss(1, true)", x.loss(1, true), -1);
        c.due("some are by cuts alone", x.all(0, true) > 0, true);
    }

    private static void coming(Checks c) {
        TieStreet x = c.street(THREE + "news 12 / ways when all; cost 7 when all;");
        // the third ties with the lesser of the two, and then no more: 12 - 7 > 0, but 12 - 6 - 7 < 0
        c.due("coming()", x.coming(), 2);
        c.due("comes(0, false)", x.comes(0, false), 3);
        c.due("comes(0, true)", x.comes(0, true), 4);
        c.due("comes(1, false)", x.comes(1, false), 5);
        c.due("comes(1, true)", x.comes(1, true), 2);
        c.due("comes(2, false)", x.comes(2, false), -1);
        c.due("comes(-1, true)", x.comes(-1, true), -1);
        c.due("THE NET stays", x.net(), 0);
        x.extra(1000);
        c.due("what was told stays", x.comes(1, false), 5);
        c.due("coming() with EXTRA", x.coming(), 1);
        c.due("comes(0, false)", x.comes(0, false), 0);
        c.due("comes(0, true)", x.comes(0, true), 6);

        x = c.street(FIVE + "news 1 when ways = 1;");
        c.due("coming() of five", x.coming(), 1);
        c.due("comes(0, false)", x.comes(0, false), 1023);
        c.due("comes(0, true)", x.comes(0, true), 120);
        x = c.street(FIVE + "news 1 when ways = 1; most a 1; bar d e;");
        x.coming();
        long sum = 0;
        for (int k = 0; x.comes(k, true) != -1; k++) {
            sum += x.comes(k, true);
            c.due("it may be", x.net(x.comes(k, false)), true);
        }
        c.due("all orders", sum, 120);
    }
}
