/** Promises 28 to 30: edge, lie, lied. */
public final class EdgeLieTest {
    private static final int NO_EDGE = -1000000000;
    private static final String THREE = "who a at 0; who b at 10; who c at 20; cost 5 when all; news 12 / ways when all;";
    private static final String SEVEN = "who a at 0; who b at 0; who c at 0; who d at 0; who e at 0; who f at 0; who g at 0;";

    public static void main(String[] args) {
        Checks c = new Checks();
        edges(c);
        wrongEdges(c);
        lies(c);
        goodLie(c);
        liesOfRings(c);
        c.finish();
    }

    private static void edges(Checks c) {
        TieStreet x = c.street(THREE);
        x.net(7);
        // a tie more costs 5 and EXTRA, and makes 6 into 12
        c.due("all tied, least", x.edge(1, -100, 100, false), -100);
        c.due("all tied, greatest", x.edge(1, -100, 100, true), 1);
        x.net(5);
        // from 1 on no third tie; up to 7 the middle one keeps a tie for 12, and the others lose 18
        c.due("line, least", x.edge(1, -100, 100, false), 1);
        c.due("line, greatest", x.edge(1, -100, 100, true), 7);
        c.due("line, by cuts alone", x.edge(0, -100, 100, false), -100);
        c.due("line, in a part of the span", x.edge(1, 3, 5, true), 5);
        c.due("line, at one", x.edge(1, 7, 7, true), 7);
        c.due("line, none", x.edge(1, 8, 100, true), NO_EDGE);
        x.net(0);
        c.due("none tied, least", x.edge(1, -100, 100, false), 7);
        c.due("none tied, together", x.edge(4, -100, 100, false), 7);
        x.extra(44);
        c.due("edge does not ask EXTRA", x.edge(1, -100, 100, false), 7);
        c.due("EXTRA stays", x.has(4), 44);
        c.due("the far end", x.edge(2, 800, 1000, true), 1000);
        c.due("the near end", x.edge(3, -1000, -800, true), NO_EDGE);
    }

    private static void wrongEdges(Checks c) {
        TieStreet x = c.street(THREE);
        int wrong = NO_EDGE - 1;
        c.due("kind -1", x.edge(-1, 0, 0, false), wrong);
        c.due("kind 5", x.edge(5, 0, 0, false), wrong);
        c.due("kind 6", x.edge(6, 0, 0, false), wrong);
        c.due("from > to", x.edge(1, 1, 0, false), wrong);
        c.due("201 apart", x.edge(1, 0, 201, false), wrong);
        c.due("200 apart", x.edge(1, 0, 200, false), 7);
        c.due("from too low", x.edge(1, -1001, -900, false), wrong);
        c.due("to too high", x.edge(1, 900, 1001, false), wrong);
        c.due("far apart", x.edge(1, Integer.MIN_VALUE, Integer.MAX_VALUE, false), wrong);
        x = c.street(SEVEN);
        c.due("seven", x.edge(1, 0, 0, false), wrong);
        c.due("lie of seven", x.lie(0), -1);
        x = c.street(SEVEN.substring(0, 71));
        c.due("six", x.edge(1, 0, 0, false), 0);
        c.due("lie of six", x.lie(5), 0);
    }

    private static void lies(Checks c) {
        TieStreet x = c.street(THREE);
        c.due("lied() ahead", x.lied(), -1000000000000L);
        c.due("lie(3)", x.lie(3), -1);
        c.due("lie(-1)", x.lie(-1), -1);
        c.due("lied() still", x.lied(), -1000000000000L);
        x.net(2);
        c.due("lie(0)", x.lie(0), 0);
        c.due("lied()", x.lied(), 14);
        c.due("THE NET stays", x.net(), 2);
        x.extra(2);
        c.due("lied() stays", x.lied(), 14);
        c.due("lie(7)", x.lie(7), -1);
        c.due("lied() stays", x.lied(), 14);
    }

    private static void goodLie(Checks c) {
        TieStreet x = c.street("who a at 0; who b at 0; who c at 0; cost 5 when all; news 12 when ways = 1; news 11 when all;");
        // true: 01 is tied, then 02, then 12 is worth 1 less 5: a has two ties and 24 less 10
        c.due("honest", worthAfterGoing(x, 0), 14);
        // up to 7 more one tie is still worth nothing less; with 8 more 12 is tied first, then 01: a has 23 less 5
        c.due("lie(0)", x.lie(0), 8);
        c.due("lied()", x.lied(), 18);
        // who is the third, has but one tie: 12 and 11 less 5
        c.due("lie(2)", x.lie(2), 0);
        c.due("lied()", x.lied(), 18);
        x = c.street("who a at 0; who b at 0; who c at 0; cost 5 when all;"
                + "news 12 when ways = 1; news 11 when all; bar a b;");
        c.due("lie(0) at the end of a line", x.lie(0), 0);
        c.due("lied()", x.lied(), 18);

        // a pays 6 for a second tie that is worth 1 to it, unless it says that it costs more
        x = c.street("who a at 0; who b at 0; who c at 0; news 9 when is a and ways = 1; news 20 when all;"
                + "cost 8 when is a; cost 1 when all;");
        long honest = worthAfterGoing(x, 0);
        int best = x.lie(0);
        c.due("the best lie is not below the truth", x.lied() >= honest, true);
        c.due("lied() of the best lie", x.lied(), sayingSo(x, best));
    }

    private static long worthAfterGoing(TieStreet x, int person) {
        x.net(0);
        x.go();
        return x.worth(person);
    }

    /** a says more: the same as a LAND in which its ties cost that; its true WORTH is that of the NET here. */
    private static long sayingSo(TieStreet x, int lie) {
        Checks c = new Checks();
        TieStreet said = c.street("who a at 0; who b at 0; who c at 0; news 9 when is a and ways = 1; news 20 when all;"
                + "cost 8 + " + lie + " when is a; cost 1 when all;");
        said.go();
        x.net(said.net());
        return x.worth(0);
    }

    private static void liesOfRings(Checks c) {
        // going from no ties leads to a ring: it counts as no ties at all
        TieStreet x = c.street("who a at 9;who b at 7;who c at 16;who d at 2;who e at 19;cost 8*mine when all;news 15 when all;");
        x.go();
        c.due("ring(0)", x.ring(0), 4);
        for (int p = 0; p < 5; p++) {
            int lie = x.lie(p);
            c.due("a lie", lie >= 0 && lie <= 20, true);
            c.due("no worse than no ties", x.lied() >= 0, true);
        }
    }
}
