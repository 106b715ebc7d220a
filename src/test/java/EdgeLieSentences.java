/** Sentences of Terms III on EDGES and LIES, and of promises 28 to 30: edge, lie, lied. */
final class EdgeLieSentences {
    private static final int NO_EDGE = -1000000000;
    private static final int WRONG = NO_EDGE - 1;
    private static final long NO_WORTH = -1000000000000L;
    /** A TIE of two is at REST up to EXTRA 5, no TIE is from EXTRA 5 on. */
    private static final String FIVE = "news 5 when all;";
    /** From no TIES at all 200 STEPS are not enough, if everybody tells the truth. */
    private static final String FAR = "who a at 29;who b at 0;who c at 7;who d at 9;who e at 18;who f at 24;"
            + "news miles/3 when theirs>1 and mine>1;news 13 when ties=10;cost theirs/2 when all;"
            + "news mine+1 when ways=3 and not is a;news mine when not is f and mine<3;"
            + "news 12 when mine<4 and not is b and not is f;news 7 when ties-ties/2*2=1 and not is f and ties<9;"
            + "news mine*4 when mine>2;news 19 when ties-ties/2*2=1;news ways+6 when theirs=1;";

    static void ask(Sentences s) {
        edgesAsked(s);
        edges(s);
        edgeCalls(s);
        liesTold(s);
        liesGone(s);
        bestLies(s);
        lieCalls(s);
        liedCalls(s);
    }

    private static TieStreet people(Checks c, int n, String more) {
        return c.street(TextSentences.people(n) + more);
    }

    private static void edgesAsked(Sentences s) {
        Checks c = s.of("Terms III", "EDGE of THE NET by a kind (0 .. 4; 6 PERSONS at most)");
        for (int n = 0; n <= 10; n++) {
            TieStreet x = people(c, n, "");
            for (int kind = 0; kind <= 4; kind++) {
                c.due("kind " + kind + " of " + n, x.edge(kind, 0, 0, false), n <= 6 ? 0 : WRONG);
            }
        }
        TieStreet x = people(c, 2, FIVE);
        for (int kind : new int[] {-1, 5, 6, Integer.MIN_VALUE, Integer.MAX_VALUE}) {
            c.due("kind " + kind, x.edge(kind, 0, 0, false), WRONG);
        }
        // by kind: no CUT with any EXTRA; no ADD from 5 on; TOGETHER from 5 on
        int[] least = {-100, 5, 5, 5, 5};
        for (int kind = 0; kind <= 4; kind++) {
            c.due("kind " + kind + " of no TIE", x.edge(kind, -100, 100, false), least[kind]);
        }
    }

    private static void edges(Sentences s) {
        Checks c = s.of("Terms III", "the least (or greatest) EXTRA of a span (-1000 .. 1000; 200 apart at most) with which it "
                + "is at REST.");
        TieStreet x = people(c, 2, FIVE);
        c.due("no TIE, the least", x.edge(1, -100, 100, false), 5);
        c.due("no TIE, the greatest", x.edge(1, -100, 100, true), 100);
        x.net(1);
        c.due("a TIE, the least", x.edge(1, -100, 100, false), -100);
        c.due("a TIE, the greatest", x.edge(1, -100, 100, true), 5);
        c.due("a span of one, with which it is", x.edge(1, 5, 5, false), 5);
        c.due("a span of one, with which it is", x.edge(1, 5, 5, true), 5);
        c.due("a span of one, with which it is not", x.edge(1, 6, 6, true), NO_EDGE);
        c.due("a span of two", x.edge(1, 5, 6, true), 5);
        c.due("the lowest span", x.edge(1, -1000, -800, false), -1000);
        c.due("the lowest of all", x.edge(1, -1000, -1000, true), -1000);
        x.net(0);
        c.due("the highest span", x.edge(1, 800, 1000, true), 1000);
        c.due("the highest of all", x.edge(1, 1000, 1000, false), 1000);
        c.due("200 apart", x.edge(1, -195, 5, true), 5);
        c.due("201 apart", x.edge(1, -196, 5, true), WRONG);
        x = people(c, 2, "news 1000 when all;");
        x.net(1);
        c.due("with the highest alone they neither gain nor lose", x.edge(1, 800, 1000, true), 1000);
        x.net(0);
        c.due("with the highest alone", x.edge(1, 800, 1000, false), 1000);
    }

    private static void edgeCalls(Sentences s) {
        Checks c = s.of(28, "the least (most false) or greatest EXTRA from .. to");
        TieStreet x = people(c, 2, FIVE);
        x.extra(77);
        c.due("least", x.edge(1, 0, 200, false), 5);
        c.due("greatest", x.edge(1, 0, 200, true), 200);
        c.due("EXTRA stays", x.has(4), 77);
        c.due("THE NET stays", x.net(), 0);
        c.due("0 is an EXTRA as others are", people(c, 2, "").edge(1, -5, 0, true), 0);

        c = s.of(28, "-10 to the 9 when there is none");
        c.due("least", x.edge(1, -196, 4, false), NO_EDGE);
        c.due("greatest", x.edge(1, -196, 4, true), NO_EDGE);
        c.due("EXTRA stays", x.has(4), 77);

        c = s.of(28, "1 less than that when something can't be.");
        c.due("from above to", x.edge(1, 1, 0, false), WRONG);
        c.due("from far above to", x.edge(1, Integer.MAX_VALUE, Integer.MIN_VALUE, false), WRONG);
        c.due("from below -1000", x.edge(1, -1001, -1000, false), WRONG);
        c.due("to above 1000", x.edge(1, 1000, 1001, false), WRONG);
        c.due("both above 1000", x.edge(1, 1001, 1001, true), WRONG);
        c.due("both below -1000", x.edge(1, -1001, -1001, true), WRONG);
        c.due("201 apart", x.edge(1, 0, 201, false), WRONG);
        c.due("2000 apart", x.edge(1, -1000, 1000, false), WRONG);
        c.due("farther apart than a number is long", x.edge(1, Integer.MIN_VALUE, Integer.MAX_VALUE, true), WRONG);
        c.due("from the least number of all", x.edge(1, Integer.MIN_VALUE, 0, true), WRONG);
        c.due("to the greatest number of all", x.edge(1, 0, Integer.MAX_VALUE, false), WRONG);
        c.due("no such kind", x.edge(-1, 0, 0, false), WRONG);
        c.due("kind 5", x.edge(5, 0, 0, false), WRONG);
        c.due("of seven", people(c, 7, "").edge(1, 0, 0, false), WRONG);
        c.due("EXTRA stays", x.has(4), 77);
    }

    /** a ties with b and c, unless it says that TIES cost more than near less 5; then it has but one, and more of it. */
    private static TieStreet three(Checks c, int near) {
        return people(c, 3, "cost 5 when all;news " + near + " when ways = 1;news " + (near - 1) + " when all;");
    }

    private static void liesTold(Sentences s) {
        Checks c = s.of("Terms III", "A LIE of a PERSON (6 PERSONS at most): so much (0 .. 20) more it says each of its TIES "
                + "costs it.");
        TieStreet x = three(c, 24);
        c.due("20 is the least that helps", x.lie(0), 20);
        c.due("lied()", x.lied(), 24 + 23 - 5);
        x = three(c, 25);
        c.due("21 would help", x.lie(0), 0);
        c.due("lied()", x.lied(), 50 - 10);
        x = three(c, 23);
        c.due("19 is the least that helps", x.lie(0), 19);
        c.due("lied()", x.lied(), 23 + 22 - 5);
        x = three(c, 6);
        c.due("2 is the least that helps", x.lie(0), 2);
        c.due("of six", people(c, 6, "").lie(0), 0);
        c.due("of seven", people(c, 7, "").lie(0), -1);
        c.due("of ten", people(c, 10, "").lie(9), -1);
        c.due("of one", people(c, 1, "").lie(0), 0);
    }

    private static void liesGone(Sentences s) {
        Checks c = s.of("Terms III", "From no TIES at all one GOES with what is said");
        TieStreet x = three(c, 24);
        x.net(7);
        c.due("THE NET is not asked", x.lie(0), 20);
        c.due("THE NET stays", x.net(), 7);
        x.extra(-1);
        c.due("EXTRA counts: 21 would help", x.lie(0), 0);
        x.extra(1);
        c.due("EXTRA counts: 19 helps", x.lie(0), 19);
        c.due("EXTRA stays", x.has(4), 1);

        c = s.of("Terms III", "the NET where it ends (that without TIES, if it is a RING, or 200 STEPS are not enough) has its "
                + "true WORTH to the PERSON.");
        // the truth leads b round a RING; with 1 more b has one TIE with a and no more, with 2 more none
        x = c.street("who a at 0;who b at 0;who c at 0;news ways when is b;news ties-ties/2*2 when all;");
        x.go();
        c.due("a RING", x.ring(0), 4);
        c.due("lie(1)", x.lie(1), 1);
        c.due("lied(): the true WORTH of one TIE", x.lied(), 1);
        x = c.street(FAR);
        c.due("200 STEPS are not enough", x.go(), -1);
        c.due("lie(0)", x.lie(0), 3);
        c.due("lied()", x.lied(), 33);
        c.due("lie(1)", x.lie(1), 4);
        c.due("lied()", x.lied(), 28);
        c.due("lie(5)", x.lie(5), 0);
        c.due("lied(): never better than without TIES", x.lied(), 0);
    }

    private static void bestLies(Sentences s) {
        Checks c = s.of("Terms III", "The BEST LIE: with the most; of several the least.");
        TieStreet x = three(c, 12);
        c.due("of 8 to 20, which are alike", x.lie(0), 8);
        c.due("lied()", x.lied(), 18);
        c.due("of all, which are alike", people(c, 3, "").lie(0), 0);
        c.due("c has the best at once", x.lie(2), 0);
        c.due("lied()", x.lied(), 18);
        // every TIE is worth 1 to everybody: any lie is the end of all TIES
        x = people(c, 3, "news 1 when ways = 1;");
        c.due("the truth", x.lie(0), 0);
        c.due("lied()", x.lied(), 2);
        x = people(c, 2, "news 0 - 5 when is a and ties = 1;news 9 when is b;cost 0 when all;");
        c.due("a does not tie with any lie", x.lie(0), 0);
        c.due("lied()", x.lied(), 0);
    }

    private static void lieCalls(Sentences s) {
        Checks c = s.of(29, "NONE when there is no such one, or there are more than 6.");
        TieStreet x = people(c, 6, "");
        for (int person : new int[] {-1, 6, Integer.MIN_VALUE, Integer.MAX_VALUE}) {
            c.due("lie(" + person + ")", x.lie(person), -1);
        }
        c.due("the first of six", x.lie(0), 0);
        c.due("the last of six", x.lie(5), 0);
        x = people(c, 7, "");
        c.due("the first of seven", x.lie(0), -1);
        c.due("the last of seven", x.lie(6), -1);
        c.due("of nobody", new TieStreet().lie(0), -1);
    }

    private static void liedCalls(Sentences s) {
        Checks c = s.of(30, "-10 to the 12 without one.");
        TieStreet x = three(c, 12);
        c.due("ahead of any", x.lied(), NO_WORTH);
        c.due("lie(3)", x.lie(3), -1);
        c.due("one that was NONE is none", x.lied(), NO_WORTH);
        c.due("of nobody", new TieStreet().lied(), NO_WORTH);

        c = s.of(30, "The true WORTH to it of the latest lie() that was not NONE");
        x.lie(0);
        c.due("lied()", x.lied(), 18);
        x.lie(-1);
        x.lie(3);
        c.due("one that was NONE leaves it", x.lied(), 18);
        x.extra(100);
        x.net(7);
        x.go();
        c.due("other calls leave it", x.lied(), 18);
        x.lie(0);
        c.due("the latest", x.lied(), 0);
        x = three(c, 24);
        x.lie(0);
        c.due("the true one, not what is said", x.lied(), 24 + 23 - 5);
    }
}
