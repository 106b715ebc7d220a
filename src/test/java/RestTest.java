/** Promises 14 and 15: rest, bars. */
public final class RestTest {
    private static final String THREE = "who a at 0; who b at 0; who c at 0;";

    public static void main(String[] args) {
        Checks c = new Checks();
        wrongKinds(c);
        cuts(c);
        adds(c);
        severals(c);
        swaps(c);
        togethers(c);
        sets(c);
        latestThatWasZero(c);
        c.finish();
    }

    private static void bar(Checks c, TieStreet x, int kind, long sort, long persons, long net) {
        c.due("rest(" + kind + ")", x.rest(kind), 0);
        c.due("bars(0)", x.bars(0), sort);
        c.due("bars(1)", x.bars(1), persons);
        c.due("bars(2)", x.bars(2), net);
    }

    private static void wrongKinds(Checks c) {
        TieStreet x = c.street(THREE);
        c.due("rest(-1)", x.rest(-1), -1);
        c.due("rest(6)", x.rest(6), -1);
        c.due("rest(5) of three", x.rest(5), 1);
        c.due("bars(0) without one", x.bars(0), -1);
        x = c.street(THREE + "who d at 0; who e at 0; who f at 0;");
        c.due("rest(5) of six", x.rest(5), -1);
        x = c.street(THREE + "who d at 0; who e at 0; news 1 when ties = 10;");
        bar(c, x, 5, 5, 31, 1023);
        x = c.street(THREE + "who d at 0; who e at 0; who f at 0;");
        for (int kind = 0; kind <= 4; kind++) {
            c.due("rest of six", x.rest(kind), 1);
        }
    }

    private static void cuts(Checks c) {
        TieStreet x = c.street(THREE + "cost 4 when is c; cost 3 when is b and mine > 1;");
        x.net(6);
        bar(c, x, 0, 0, 4, 4);
        x.net(5);
        bar(c, x, 0, 0, 2, 4);
        x.net(1);
        c.due("b has one tie alone", x.rest(0), 1);
        x = c.street(THREE + "cost 1 when all;");
        x.net(7);
        bar(c, x, 3, 0, 1, 6);
        x = c.street(THREE + "cost 0 when all;");
        x.net(7);
        c.due("who neither gains nor loses does not cut", x.rest(0), 1);
    }

    private static void adds(Checks c) {
        TieStreet x = c.street(THREE + "news 2 when is b and ways = 1; cost 1 when is c;");
        bar(c, x, 1, 1, 3, 1);
        x.net(1);
        c.due("c would lose, b's gain is not enough", x.rest(1), 1);
        c.due("rest(0)", x.rest(0), 1);
        x = c.street(THREE + "news 2 when is b and ways = 1; bar a b;");
        bar(c, x, 1, 1, 6, 4);
        x = c.street(THREE + "news 2 when is b and ways = 1; most b 0;");
        c.due("b may have no tie", x.rest(1), 1);
        x = c.street(THREE);
        c.due("nobody gains", x.rest(1), 1);
    }

    private static void severals(Checks c) {
        // a's worth: 0 without a tie, -5 with one, -2 with two
        TieStreet x = c.street(THREE + "cost 15 when is a and mine = 1; cost 11 when is a; news 10 when all;");
        x.net(3);
        c.due("rest(1)", x.rest(1), 1);
        c.due("rest(3)", x.rest(3), 1);
        bar(c, x, 2, 2, 1, 0);

        // with three: two of them, the least set first
        x = c.street(THREE + "who d at 0; cost 9 when is a and mine = 2; cost 4 when is a and mine = 3;"
                + "news 3 when is a and ways = 1; news 1 when ways = 1;");
        x.net(11);
        c.due("rest(1)", x.rest(0), 1);
        bar(c, x, 2, 1, 6, 15);
        x.net(63);
        c.due("rest(1)", x.rest(1), 1);
        bar(c, x, 2, 2, 1, 63 - 3);
    }

    private static void swaps(Checks c) {
        // one tie is enough for each, the nearer the better
        TieStreet x = c.street("who a at 0; who b at 10; who c at 5; news 20 - miles when ways = 1; cost 30 when mine > 1;");
        x.net(1);
        c.due("rest(2)", x.rest(2), 1);
        bar(c, x, 3, 3, 5, 2);
        x.net(2);
        c.due("c is as near to b as to a", x.rest(3), 1);

        x = c.street("who a at 0; who b at 10; who c at 5; news 20 - miles when ways = 1; cost 30 when mine > 1; bar a c;");
        x.net(1);
        bar(c, x, 3, 3, 6, 4);
        x = c.street("who a at 0; who b at 10; who c at 5; news 20 - miles when ways = 1; cost 30 when mine > 1; most c 0;");
        x.net(1);
        c.due("c may have no tie", x.rest(3), 1);
        x = c.street("who a at 0; who b at 10; who c at 5; news 20 - miles when ways = 1; cost 30 when mine > 1 or is c;");
        x.net(1);
        c.due("c would lose", x.rest(3), 1);

        // with another one of a lesser number, who gains nothing and loses nothing
        x = c.street("who a at 5; who b at 0; who c at 10; news 20 - miles when ways = 1 and is b; cost 30 when mine > 1;");
        x.net(4);
        bar(c, x, 3, 3, 3, 1);
        // by the PAIR cut, then by the PAIR made
        x = c.street("who a at 5; who b at 5; who c at 0; who d at 5; who e at 9;"
                + "news 20 - miles when ways = 1 and is c; cost 30 when is c and mine > 1;");
        x.net(x.shape(2, 2) & 256);
        bar(c, x, 3, 3, 5, 2);
        x = c.street("who a at 9; who b at 9; who c at 0; who d at 5; who e at 4;"
                + "news 20 - miles when ways = 1 and is c; cost 30 when is c and mine > 2;");
        x.net(6);
        bar(c, x, 3, 3, 12, 4 + 32);
    }

    private static void togethers(Checks c) {
        TieStreet x = c.street("who a at 0; who b at 0; news 10 when is a; cost 3 when is b;");
        c.due("rest(1)", x.rest(1), 1);
        bar(c, x, 4, 4, 3, 1);
        x.net(1);
        bar(c, x, 0, 0, 2, 0);
        c.due("rest(4)", x.rest(4), 1);
        x = c.street("who a at 0; who b at 0; news 3 when is a; cost 3 when is b;");
        c.due("as much as ahead", x.rest(4), 1);
        x = c.street("who a at 0; who b at 0; news 3 when is a; cost 4 when is b;");
        x.net(1);
        bar(c, x, 4, 4, 3, 0);
        x = c.street("who a at 0; who b at 0; news 3 when all; bar a b;");
        c.due("they may not", x.rest(4), 1);
    }

    private static void sets(Checks c) {
        TieStreet x = c.street(THREE + "news 10 when ties = 3; cost 1 when all;");
        for (int kind = 0; kind <= 4; kind++) {
            c.due("rest(" + kind + ")", x.rest(kind), 1);
        }
        bar(c, x, 5, 5, 7, 7);
        x.net(7);
        c.due("rest(5)", x.rest(5), 1);

        // who gains is least: b alone cuts both of its ties, though a and c gain nothing
        x = c.street(THREE + "cost 1 when is b;");
        x.net(7);
        bar(c, x, 5, 5, 2, 2);

        // a and b gain by a tie that they make, and by c's being cut off from both
        x = c.street(THREE + "news 2 when is c; news 5 when ties = 1 and not is c;");
        x.net(6);
        bar(c, x, 5, 5, 3, 1);
        x = c.street(THREE + "news 2 when is c; news 5 when ties = 1 and not is c; bar a b;");
        x.net(6);
        c.due("who gains has no end of what would be cut", x.rest(5), 1);
    }

    private static void latestThatWasZero(Checks c) {
        TieStreet x = c.street("who a at 0; who b at 0; news 1 when all;");
        bar(c, x, 1, 1, 3, 1);
        x.net(1);
        c.due("rest(1)", x.rest(1), 1);
        c.due("rest(7)", x.rest(7), -1);
        x.all(4, false);
        x.loss(4, false);
        x.edge(1, 5, 5, false);
        x.gifts(2);
        c.due("bars(0) stays", x.bars(0), 1);
        c.due("bars(1) stays", x.bars(1), 3);
        c.due("bars(2) stays", x.bars(2), 1);
        c.due("bars(3)", x.bars(3), -1);
        c.due("bars(-1)", x.bars(-1), -1);
    }
}
