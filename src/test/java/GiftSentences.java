/** Sentences of Terms III on GIFTS, GOOD and KEPT, and of promises 25 to 27: gifts, gift, good. */
final class GiftSentences {
    static void ask(Sentences s) {
        passing(s);
        bothInNeed(s);
        standing(s);
        goodPairs(s);
        keptTies(s);
        giftsCalls(s);
        giftCalls(s);
        goodCalls(s);
    }

    private static TieStreet people(Checks c, int n, String more) {
        return c.street(TextSentences.people(n) + more);
    }

    /** Two who are tied: a would lose so much by a CUT, b has so much of a NEED. */
    private static TieStreet tied(Checks c, int loss, int need) {
        TieStreet x = people(c, 2, "news " + loss + " when is a;cost " + need + " when is b;");
        x.net(1);
        return x;
    }

    private static void passing(Sentences s) {
        Checks c = s.of("Terms III", "of a TIE by which a PERSON would gain by CUT (so much is its NEED), the other one passes "
                + "the NEED, as far as that is not more than what it would lose by that CUT; what lacks comes from outside "
                + "(HELP).");
        int[][] cases = {{5, 4, 4, 0}, {5, 5, 5, 0}, {5, 6, 5, 1}, {5, 0, 0, 0}, {0, 5, 0, 5}, {0, 0, 0, 0}, {1, 9999, 1, 9998},
            {9999, 1, 1, 0}};
        for (int[] each : cases) {
            TieStreet x = tied(c, each[0], each[1]);
            c.due("loss " + each[0] + ", NEED " + each[1] + ": passed", x.gift(1, 0, false), each[2]);
            c.due("loss " + each[0] + ", NEED " + each[1] + ": HELP", x.gift(1, 0, true), each[3]);
            c.due("who has no NEED gets nothing", x.gift(0, 0, false), 0);
            c.due("nor HELP", x.gift(0, 0, true), 0);
            c.due("gifts(0)", x.gifts(0), each[2]);
            c.due("gifts(1)", x.gifts(1), each[3]);
        }
        TieStreet x = people(c, 2, "news 4 when is b;cost 4 when is b;news 1 when is a;");
        x.net(1);
        c.due("who would neither gain nor lose by a CUT", x.gift(1, 0, false), 0);
        x.extra(1);
        c.due("EXTRA makes a NEED of 1, and leaves a no loss", x.gift(1, 0, false), 0);
        c.due("HELP", x.gift(1, 0, true), 1);
    }

    private static void bothInNeed(Sentences s) {
        Checks c = s.of("Terms III", "(Both may have a NEED: then all is HELP.)");
        TieStreet x = people(c, 2, "cost 3 when is a;cost 1 when is b;");
        x.net(1);
        c.due("passed to a", x.gift(0, 0, false), 0);
        c.due("HELP for a", x.gift(0, 0, true), 3);
        c.due("passed to b", x.gift(1, 0, false), 0);
        c.due("HELP for b", x.gift(1, 0, true), 1);
        c.due("gifts(0)", x.gifts(0), 0);
        c.due("gifts(1)", x.gifts(1), 4);
    }

    private static void standing(Sentences s) {
        Checks c = s.of("Terms III", "It STANDS with these, if there is no ADD.");
        c.due("of nobody", new TieStreet().gifts(2), 1);
        TieStreet x = people(c, 2, "news 1 when is a;");
        c.due("an ADD", x.gifts(2), 0);
        x.net(1);
        c.due("none is left", x.gifts(2), 1);
        x = tied(c, 5, 6);
        c.due("a CUT, but no ADD", x.gifts(2), 1);
        x = people(c, 10, "news 1 when ways = 1;");
        x.net((1L << 44) - 1);
        c.due("an ADD of the last PAIR", x.gifts(2), 0);
        x = people(c, 10, "news 1 when ways = 1;bar i j;");
        x.net((1L << 44) - 1);
        c.due("one that may not be", x.gifts(2), 1);
    }

    private static void goodPairs(Sentences s) {
        Checks c = s.of("Terms III", "GOOD: PAIRS that are not tied and may be, by tying which WORTH in all is more, though "
                + "there is no ADD.");
        String b = "news 10 when is a;cost ";
        c.due("1 more in all", people(c, 2, b + "9 when is b;").good(false), 1);
        c.due("as much as ahead in all", people(c, 2, b + "10 when is b;").good(false), 0);
        c.due("1 less in all", people(c, 2, b + "11 when is b;").good(false), 0);
        c.due("an ADD", people(c, 2, b + "0 when is b;").good(false), 0);
        c.due("b would lose 1", people(c, 2, b + "1 when is b;").good(false), 1);
        c.due("barred", people(c, 2, b + "9 when is b;bar a b;").good(false), 0);
        c.due("more than the most", people(c, 2, b + "9 when is b;most b 0;").good(false), 0);
        TieStreet x = people(c, 2, b + "9 when is b;");
        x.net(1);
        c.due("tied", x.good(false), 0);
        // what a third one gains counts: c, who is tied with b, has a way to a then
        x = people(c, 3, "news 3 when is c and ways = 2;cost 1 when is a;cost 1 when is b and mine = 2;bar a c;");
        x.net(4);
        c.due("for the sake of a third one", x.good(false), 0);
        x = people(c, 3, "news 4 when is c and ways = 2;cost 1 when is a;cost 1 when is b and mine = 2;bar a c;");
        x.net(4);
        c.due("for the sake of a third one who has 1 more of it", x.good(false), 1);
    }

    /** a has 1 of its TIE with b; c, who has 10 of its TIE with b, has so much less when there are two TIES. */
    private static TieStreet harming(Checks c, int harm, int cost) {
        TieStreet x = people(c, 3, "news 1 when is a and ways = 1;news 10 - " + harm + " when is c and ways = 1 and ties = 2;"
                + "news 10 when is c and ways = 1;cost " + cost + " when is a;");
        x.net(5);
        return x;
    }

    private static void keptTies(Sentences s) {
        Checks c = s.of("Terms III", "KEPT: TIES by cutting which WORTH in all is more, though there is no CUT.");
        c.due("1 more in all", harming(c, 2, 0).good(true), 1);
        c.due("as much as ahead in all", harming(c, 1, 0).good(true), 0);
        c.due("1 less in all", harming(c, 0, 0).good(true), 0);
        c.due("a neither gains nor loses by it", harming(c, 2, 1).good(true), 1);
        c.due("a CUT", harming(c, 2, 2).good(true), 0);
        TieStreet x = harming(c, 2, 0);
        x.net(0);
        c.due("not tied", x.good(true), 0);
    }

    private static void giftsCalls(Sentences s) {
        Checks c = s.of(25, "0 all that is passed, 1 all HELP, 2 whether it STANDS (1, 0).");
        c.due("gifts(0) of nobody", new TieStreet().gifts(0), 0);
        c.due("gifts(1) of nobody", new TieStreet().gifts(1), 0);
        TieStreet x = people(c, 3, "news 4 when is a and ways = 1;cost 9 when is b;cost 1 when is c;");
        c.due("gifts(0) without TIES", x.gifts(0), 0);
        c.due("gifts(1) without TIES", x.gifts(1), 0);
        x.net(7);
        // 01: b needs 9, a would lose 4; 02: c needs 1; 12: both are in NEED
        c.due("gifts(0)", x.gifts(0), 4 + 1);
        c.due("gifts(1)", x.gifts(1), 5 + 9 + 1);
        c.due("gifts(2)", x.gifts(2), 1);
        c.due("THE NET stays", x.net(), 7);
        x = people(c, 10, "cost 1 when is j;");
        x.net(1L << 44);
        c.due("of the last PAIR", x.gifts(1), 1);

        c = s.of(25, "NONE for others.");
        for (int what : new int[] {-1, 3, Integer.MIN_VALUE, Integer.MAX_VALUE}) {
            c.due("gifts(" + what + ")", x.gifts(what), -1);
        }
    }

    private static void giftCalls(Sentences s) {
        Checks c = s.of(26, "What the other end of a PAIR's TIE passes to a PERSON in THE NET (help false), or the HELP it has");
        TieStreet x = people(c, 10, "news 5 when is i;cost 7 when is j;");
        x.net(1L << 44);
        c.due("passed to the last PERSON", x.gift(9, 44, false), 5);
        c.due("HELP for the last PERSON", x.gift(9, 44, true), 2);
        c.due("passed to the other end", x.gift(8, 44, false), 0);
        c.due("HELP for the other end", x.gift(8, 44, true), 0);

        c = s.of(26, "NONE when it is no TIE of that PERSON.");
        c.due("another one's TIE", x.gift(7, 44, false), -1);
        c.due("a PAIR that is not tied", x.gift(0, 0, true), -1);
        for (int pair : new int[] {-1, 45, 63, 64, 44 + 64, 44 - 64, 44 + 32, Integer.MIN_VALUE, Integer.MAX_VALUE}) {
            c.due("gift(9, " + pair + ")", x.gift(9, pair, false), -1);
            c.due("gift(0, " + pair + ")", x.gift(0, pair, true), -1);
        }
        for (int person : new int[] {-1, 10, Integer.MIN_VALUE, Integer.MAX_VALUE}) {
            c.due("gift(" + person + ", 44)", x.gift(person, 44, false), -1);
            c.due("gift(" + person + ", -1)", x.gift(person, -1, false), -1);
        }
        x = tied(c, 5, 4);
        c.due("behind the only PAIR", x.gift(0, 1, false), -1);
        c.due("the only PAIR once more by its bits", x.gift(1, 64, false), -1);
        x.net(0);
        c.due("without TIES", x.gift(1, 0, false), -1);
        c.due("of nobody", new TieStreet().gift(0, 0, false), -1);
    }

    private static void goodCalls(Sentences s) {
        Checks c = s.of(27, "PAIRS that are GOOD (kept false) or KEPT, as bits.");
        c.due("GOOD of nobody", new TieStreet().good(false), 0);
        c.due("KEPT of nobody", new TieStreet().good(true), 0);
        TieStreet x = people(c, 10, "news 10 when is j and ways = 1;cost 9 when is i;");
        c.due("the last PAIR", x.good(false), 1L << 44);
        x = people(c, 10, "news 10 when is j and ways = 1;cost 9 when not is j;");
        c.due("all PAIRS of the last PERSON", x.good(false), x.shape(2, 9));
        c.due("THE NET stays", x.net(), 0);
        c.due("KEPT without TIES", x.good(true), 0);
        x = people(c, 3, "");
        x.net(7);
        c.due("GOOD of all TIES", x.good(false), 0);
        c.due("KEPT of TIES that are worth nothing", x.good(true), 0);
    }
}
