/** Sentences of promises 8 to 13 (net, shape, extra, worth, ways), and of the terms on NETS, WORTH and SHAPES told. */
final class NetSentences {
    private static final long NO_WORTH = -1000000000000L;
    private static final long ALL_OF_TEN = (1L << 45) - 1;

    static void ask(Sentences s) {
        pairs(s);
        nets(s);
        may(s);
        worths(s);
        settingNets(s);
        shapesTold(s);
        shapes(s);
        extras(s);
        worthCalls(s);
        ways(s);
    }

    private static TieStreet people(Checks c, int n, String more) {
        return c.street(TextSentences.people(n) + more);
    }

    private static void pairs(Sentences s) {
        Checks c = s.of("Terms I", "PAIRS of PERSONS are numbered: 0 with 1, 0 with 2, 1 with 2, 0 with 3, and so on "
                + "(a < b: b times (b less 1) / 2, and a).");
        TieStreet x = people(c, 10, "");
        int pair = 0;
        for (int b = 1; b < 10; b++) {
            for (int a = 0; a < b; a++) {
                c.due("net of pair " + pair, x.net(1L << pair), true);
                c.due("pair " + pair + " is " + a + " with " + b, x.ways(a, b), 1);
                c.due("and " + b + " with " + a, x.ways(b, a), 1);
                c.due("it is b times (b less 1) / 2, and a", pair, b * (b - 1) / 2 + a);
                pair++;
            }
        }
        c.due("behind the last pair", x.net(1L << 45), false);
    }

    private static void nets(Sentences s) {
        Checks c = s.of("Terms I", "A NET is a set of PAIRS that are tied, as bits (a number).");
        for (int n = 0; n <= 10; n++) {
            TieStreet x = people(c, n, "");
            long all = (1L << n * (n - 1) / 2) - 1;
            c.due("no TIES of " + n, x.net(0), true);
            c.due("all TIES of " + n, x.net(all), true);
            c.due("one more than all of " + n, x.net(all + 1), false);
            c.due("all stay", x.net(), all);
        }
    }

    private static void may(Sentences s) {
        Checks c = s.of("Terms I", "It MAY be, if none of it is barred, and nobody has more TIES than MOST.");
        TieStreet x = people(c, 4, "bar a d;bar b c;");
        c.due("all but the barred", x.net(63 - 8 - 4), true);
        c.due("one that is barred", x.net(8), false);
        c.due("the other one", x.net(4), false);
        c.due("one barred among others", x.net(63 - 8), false);
        c.due("the other one among others", x.net(63 - 4), false);
        x = people(c, 4, "most a 2;most d 1;");
        c.due("a has two, d has one", x.net(1 | 2 | 16), true);
        c.due("a has three", x.net(1 | 2 | 8), false);
        c.due("a has two, one with d", x.net(1 | 8), true);
        c.due("d has two", x.net(8 | 16), false);
        x = people(c, 10, "bar i j;most j 8;");
        c.due("the last PAIR", x.net(1L << 44), false);
        c.due("the last PERSON has eight", x.net(x.shape(2, 9) & ~(1L << 44)), true);
        x = people(c, 10, "most j 8;");
        c.due("the last PERSON has nine", x.net(x.shape(2, 9)), false);
    }

    private static void worths(Sentences s) {
        Checks c = s.of("Terms I", "for each other one to whom a way leads");
        TieStreet x = people(c, 10, "news 1 when all;");
        c.due("nobody, without TIES", x.worth(0), 0);
        x.net(x.shape(3, 0));
        c.due("nine, on a line of all", x.worth(0), 9);
        x.net(x.shape(3, 0) & ~(1L << 44));
        c.due("eight, on a line of nine", x.worth(0), 8);
        c.due("the tenth has nobody", x.worth(9), 0);
        c.due("no way to itself", people(c, 1, "news 1 when all;").worth(0), 0);

        c = s.of("Terms I", "that SUM of the first news whose TEST holds (0 without one)");
        x = people(c, 2, "news 3 when 1 > 2;cost 5 when 1 > 2;news 4 when is a;news 6 when all;");
        x.net(1);
        c.due("the first that holds", x.worth(0), 4);
        c.due("the last of all", x.worth(1), 6);
        x = people(c, 2, "news 3 when 1 > 2;");
        x.net(1);
        c.due("none holds", x.worth(0), 0);
        x = people(c, 2, "news 0 - 3 when all;news 8 when all;");
        x.net(1);
        c.due("one below 0", x.worth(0), -3);
        x = people(c, 2, "");
        x.net(1);
        c.due("there is none", x.worth(0), 0);

        c = s.of("Terms I", "for each TIE of the PERSON, that SUM of the first cost whose TEST holds (0 without one) "
                + "and EXTRA (-1000 .. 1000; 0 at first)");
        x = people(c, 3, "cost 3 when 1 > 2;news 5 when 1 > 2;cost 4 when is a;cost 6 when is b;cost 9 when is b;");
        x.net(5);
        c.due("the first that holds", x.worth(0), -4);
        c.due("of two TIES", x.worth(1), -12);
        c.due("none holds", x.worth(2), 0);
        c.due("in all", x.worth(-1), -16);
        x.extra(1000);
        c.due("the greatest EXTRA", x.worth(0), -1004);
        c.due("of two TIES", x.worth(1), -2012);
        c.due("where no cost holds", x.worth(2), -1000);
        x.extra(-1000);
        c.due("the least EXTRA", x.worth(0), 996);
        c.due("of two TIES", x.worth(1), 1988);
        x.net(0);
        c.due("EXTRA without a TIE", x.worth(1), 0);
        x = people(c, 3, "cost 7 when ways > 1;cost 2 when ways = 1;");
        x.net(5);
        c.due("no cost of those further off", x.worth(0), -2);

        c = s.of("Terms I", "WORTH in all: to all PERSONS together.");
        c.due("of nobody", new TieStreet().worth(-1), 0);
        x = people(c, 10, "news 1 when is a;news 2 when is j;cost 10 when is e;");
        x.net(ALL_OF_TEN);
        c.due("of ten", x.worth(-1), 9 + 18 - 90);
    }

    private static void settingNets(Sentences s) {
        Checks c = s.of(8, "THE NET becomes this one: true");
        TieStreet x = people(c, 10, "");
        for (long net : new long[] {ALL_OF_TEN, 1L << 44, 1, 0}) {
            c.due("net(" + net + ")", x.net(net), true);
            c.due("net()", x.net(), net);
        }

        c = s.of(8, "false when it is none such, or may not be.");
        x = people(c, 3, "bar a b;most c 1;");
        c.due("net(4)", x.net(4), true);
        for (long net : new long[] {8, -1, Long.MIN_VALUE, Long.MAX_VALUE, 1L << 32, 1L << 45, 1L << 62, 4 - 8,
            1, 5, 6}) {
            c.due("net(" + net + ")", x.net(net), false);
            c.due("THE NET stays", x.net(), 4);
        }
        x = people(c, 10, "");
        c.due("net(2 to the 45)", x.net(ALL_OF_TEN + 1), false);
        x = people(c, 1, "");
        c.due("net(1) of one PERSON", x.net(1), false);
        c.due("net(0) of one PERSON", x.net(0), true);

        c = s.of(9, "THE NET.");
        x = people(c, 4, "news 1 when ways = 1;");
        c.due("at first", x.net(), 0);
        x.net(32);
        c.due("as it was set", x.net(), 32);
        x.step(-1);
        c.due("as a STEP left it", x.net(), 33);
        x.go();
        c.due("as GOING left it", x.net(), 63);
    }

    private static void shapesTold(Sentences s) {
        Checks c = s.of("Terms III", "0 none, 1 all, 2 a star about a PERSON, 3 a line by numbers");
        // pairs: 01 02 12 03 13 23 04 14 24 34
        TieStreet x = people(c, 5, "");
        c.due("none", x.shape(0, 0), 0);
        c.due("all", x.shape(1, 0), 1023);
        c.due("star about the first", x.shape(2, 0), 1 | 2 | 8 | 64);
        c.due("star about the last", x.shape(2, 4), 64 | 128 | 256 | 512);
        c.due("line", x.shape(3, 0), 1 | 4 | 32 | 512);
        for (int which : new int[] {0, 1, 3}) {
            c.due(which + " of nobody", new TieStreet().shape(which, 0), 0);
            c.due(which + " of one", people(c, 1, "").shape(which, 0), 0);
        }
        c.due("star of one", people(c, 1, "").shape(2, 0), 0);
        x = people(c, 2, "");
        c.due("line of two", x.shape(3, 0), 1);
        c.due("star of two", x.shape(2, 1), 1);
        c.due("all of ten", people(c, 10, "").shape(1, 0), ALL_OF_TEN);

        c = s.of("Terms III", "4 a ring by numbers (3 PERSONS at least)");
        c.due("of nobody", new TieStreet().shape(4, 0), -1);
        c.due("of one", people(c, 1, "").shape(4, 0), -1);
        c.due("of two", people(c, 2, "").shape(4, 0), -1);
        c.due("of three", people(c, 3, "").shape(4, 0), 7);
        c.due("of four", people(c, 4, "").shape(4, 0), 1 | 4 | 32 | 8);
        long line = people(c, 10, "").shape(3, 0);
        c.due("of ten", people(c, 10, "").shape(4, 0), line | 1L << 36);

        c = s.of("Terms III", "5 two parts (those with lesser numbers than a PERSON all tied, and the others all tied)");
        x = people(c, 5, "");
        c.due("about the first: all", x.shape(5, 0), 1023);
        c.due("one, and four", x.shape(5, 1), 4 | 16 | 32 | 128 | 256 | 512);
        c.due("two, and three", x.shape(5, 2), 1 | 32 | 256 | 512);
        c.due("about the last: four, and one", x.shape(5, 4), 63);
        c.due("of one", people(c, 1, "").shape(5, 0), 0);

        c = s.of("Terms III", "6 a wheel: a ring of all but a PERSON (3 others at least), and a star about that one.");
        c.due("of nobody", new TieStreet().shape(6, 0), -1);
        c.due("of one", people(c, 1, "").shape(6, 0), -1);
        c.due("of three", people(c, 3, "").shape(6, 0), -1);
        c.due("of four", people(c, 4, "").shape(6, 0), 63);
        c.due("of five, about the first", people(c, 5, "").shape(6, 0), 1 | 2 | 8 | 64 | 4 | 32 | 512 | 128);
        c.due("of five, about the last", people(c, 5, "").shape(6, 4), 64 | 128 | 256 | 512 | 1 | 4 | 32 | 8);
        c.due("of five, about one between", people(c, 5, "").shape(6, 2), 2 | 4 | 32 | 256 | 1 | 16 | 512 | 64);
    }

    private static void shapes(Sentences s) {
        Checks c = s.of(10, "A SHAPE, about a PERSON (not looked at for 0, 1, 3, 4)");
        TieStreet x = people(c, 3, "bar a b;most a 0;");
        for (int person : new int[] {-1, 3, Integer.MIN_VALUE, Integer.MAX_VALUE}) {
            c.due("none", x.shape(0, person), 0);
            c.due("all, though it may not be", x.shape(1, person), 7);
            c.due("line", x.shape(3, person), 5);
            c.due("ring", x.shape(4, person), 7);
        }

        c = s.of(10, "NONE when there is none such.");
        x = people(c, 4, "");
        for (int person : new int[] {-1, 4, 10, Integer.MIN_VALUE, Integer.MAX_VALUE}) {
            c.due("star about " + person, x.shape(2, person), -1);
            c.due("two parts about " + person, x.shape(5, person), -1);
            c.due("wheel about " + person, x.shape(6, person), -1);
        }
        for (int which : new int[] {-1, 7, Integer.MIN_VALUE, Integer.MAX_VALUE}) {
            c.due("shape(" + which + ", 0)", x.shape(which, 0), -1);
        }
        c.due("star of nobody", new TieStreet().shape(2, 0), -1);
        c.due("two parts of nobody", new TieStreet().shape(5, 0), -1);

        c = s.of(10, "(THE NET stays.)");
        x.net(2);
        x.shape(1, 0);
        x.shape(7, 0);
        c.due("net()", x.net(), 2);
    }

    private static void extras(Sentences s) {
        Checks c = s.of(11, "EXTRA becomes this: true");
        TieStreet x = people(c, 2, "");
        for (int n : new int[] {1000, -1000, 0, 999, -999}) {
            c.due("extra(" + n + ")", x.extra(n), true);
            c.due("has(4)", x.has(4), n);
        }

        c = s.of(11, "false when it can't be.");
        x.extra(5);
        for (int n : new int[] {1001, -1001, Integer.MIN_VALUE, Integer.MAX_VALUE}) {
            c.due("extra(" + n + ")", x.extra(n), false);
            c.due("EXTRA stays", x.has(4), 5);
        }
    }

    private static void worthCalls(Sentences s) {
        Checks c = s.of(12, "WORTH of THE NET to a PERSON, or (NONE) in all");
        TieStreet x = people(c, 3, "news 1 when is a;news 10 when is b;news 100 when is c;");
        x.net(1);
        c.due("worth(0)", x.worth(0), 1);
        c.due("worth(2), without TIES", x.worth(2), 0);
        c.due("worth(-1)", x.worth(-1), 11);
        x.net(7);
        c.due("worth(2), the last one", x.worth(2), 200);
        c.due("worth(-1)", x.worth(-1), 222);

        c = s.of(12, "-10 to the 12 when there is none such.");
        for (int person : new int[] {3, -2, 10, Integer.MIN_VALUE, Integer.MAX_VALUE}) {
            c.due("worth(" + person + ")", x.worth(person), NO_WORTH);
        }
        c.due("of nobody", new TieStreet().worth(0), NO_WORTH);
        c.due("of nobody in all", new TieStreet().worth(-1), 0);
    }

    private static void ways(Sentences s) {
        Checks c = s.of(13, "How many TIES the shortest way in THE NET has");
        TieStreet x = people(c, 10, "");
        x.net(x.shape(3, 0));
        c.due("the longest way of all", x.ways(0, 9), 9);
        c.due("and back", x.ways(9, 0), 9);
        x.net(x.shape(4, 0));
        c.due("the shorter way round", x.ways(0, 6), 4);
        c.due("as long both ways round", x.ways(0, 5), 5);
        x.net(ALL_OF_TEN);
        c.due("one TIE", x.ways(8, 9), 1);

        c = s.of(13, "0 from one to itself");
        c.due("ways(0, 0)", x.ways(0, 0), 0);
        x.net(0);
        c.due("ways(9, 9), without TIES", x.ways(9, 9), 0);
        c.due("of one PERSON", people(c, 1, "").ways(0, 0), 0);

        c = s.of(13, "NONE when there is none, or no such PERSONS.");
        c.due("without TIES", x.ways(0, 1), -1);
        x.net(x.shape(5, 4));
        c.due("from one part to the other", x.ways(3, 4), -1);
        for (int person : new int[] {-1, 10, Integer.MIN_VALUE, Integer.MAX_VALUE}) {
            c.due("ways(0, " + person + ")", x.ways(0, person), -1);
            c.due("ways(" + person + ", 0)", x.ways(person, 0), -1);
            c.due("ways(" + person + ", itself)", x.ways(person, person), -1);
        }
        c.due("of nobody", new TieStreet().ways(0, 0), -1);
    }
}
