/** Sentences of Terms II on CHANGES, REST and BARS, and of promises 14 and 15: rest, bars. */
final class RestSentences {
    static void ask(Sentences s) {
        toOneThatMayBe(s);
        cuts(s);
        adds(s);
        severals(s);
        swaps(s);
        togethers(s);
        sets(s);
        kinds(s);
        fewAlone(s);
        orderOfCutsAndAdds(s);
        orderOfSeveralsAndSwaps(s);
        orderOfTogethersAndSets(s);
        personsAsBits(s);
        restCalls(s);
        barCalls(s);
    }

    private static TieStreet people(Checks c, int n, String more) {
        return c.street(TextSentences.people(n) + more);
    }

    private static void barred(Checks c, TieStreet x, int kind, long sort, long persons, long net) {
        c.due("rest(" + kind + ")", x.rest(kind), 0);
        c.due("bars(0)", x.bars(0), sort);
        c.due("bars(1)", x.bars(1), persons);
        c.due("bars(2)", x.bars(2), net);
    }

    private static void toOneThatMayBe(Sentences s) {
        Checks c = s.of("Terms II", "A CHANGE of a NET, to one that MAY be");
        String news = "news 1 when ways = 1;";
        for (String no : new String[] {"bar a b;", "bar b a;", "most a 0;", "most b 0;"}) {
            TieStreet x = people(c, 2, news + no);
            c.due("no ADD with " + no, x.rest(1), 1);
            c.due("no TOGETHER with " + no, x.rest(4), 1);
            c.due("no SET with " + no, x.rest(5), 1);
            c.due("no STEP with " + no, x.step(-1), -1);
        }
        TieStreet x = people(c, 3, news + "most a 1;");
        x.net(1);
        barred(c, x, 1, 1, 6, 5);
        // b cuts and ties anew: so its most is not passed, though c's would be
        String nearer = "who a at 9;who b at 0;who c at 1;news 20 - miles when is b and ways = 1;";
        x = c.street(nearer + "most b 1;");
        x.net(1);
        barred(c, x, 3, 3, 6, 4);
        x = c.street(nearer + "most b 1;most c 0;");
        x.net(1);
        c.due("no SWAP with one who may have no TIE", x.rest(3), 1);
        x = c.street(nearer + "most b 1;bar b c;");
        x.net(1);
        c.due("no SWAP with one who is barred", x.rest(3), 1);
    }

    private static void cuts(Sentences s) {
        Checks c = s.of("Terms II", "CUT: a PERSON cuts one TIE of its own, and gains (its WORTH is more then).");
        TieStreet x = people(c, 2, "news 5 when all;cost 6 when is a;");
        c.due("no TIE to cut", x.rest(0), 1);
        x.net(1);
        barred(c, x, 0, 0, 1, 0);
        x = people(c, 2, "news 5 when all;cost 5 when is a;");
        x.net(1);
        c.due("as much as ahead is not more", x.rest(0), 1);
        x.extra(1);
        barred(c, x, 0, 0, 1, 0);
        x.extra(-1);
        c.due("it would lose 1", x.rest(0), 1);
        x = people(c, 3, "cost 1 when is c;");
        x.net(1);
        c.due("another one's TIE", x.rest(0), 1);
        x.net(3);
        barred(c, x, 0, 0, 4, 1);
    }

    private static void adds(Sentences s) {
        Checks c = s.of("Terms II", "ADD: two that are not tied tie; neither loses, and one gains.");
        String[] texts = {"", "news 1 when is a;", "news 1 when is b;", "news 1 when all;",
            "news 1 when is a;cost 1 when is b;", "news 9 when is b;cost 1 when is a;", "cost 1 when all;",
            "news 1 when all;cost 1 when all;", "news 2 when all;cost 1 when all;"};
        boolean[] add = {false, true, true, true, false, false, false, false, true};
        for (int i = 0; i < texts.length; i++) {
            TieStreet x = people(c, 2, texts[i]);
            c.due("no ADD with " + texts[i], x.rest(1), !add[i] ? 1 : 0);
            if (add[i]) {
                barred(c, x, 1, 1, 3, 1);
                x.net(1);
                c.due("none when they are tied", x.rest(1), 1);
            }
        }
    }

    /** Four, of whom a has news of those tied with it; one, two and three TIES cost it so much each. */
    private static TieStreet starOfThree(Checks c, int one, int two, int three) {
        TieStreet x = people(c, 4, "news 10 when is a and ways = 1;cost " + three + " when is a and mine = 3;cost " + two
                + " when is a and mine = 2;cost " + one + " when is a;");
        x.net(x.shape(2, 0));
        return x;
    }

    private static void severals(Sentences s) {
        Checks c = s.of("Terms II", "SEVERAL: a PERSON cuts two TIES or more of its own at once, and gains.");
        // WORTH to a with 0 to 3 TIES
        TieStreet x = starOfThree(c, 14, 12, 11);
        c.due("0 -4 -4 -3: no CUT", x.rest(1), 1);
        barred(c, x, 2, 2, 1, 0);
        x = starOfThree(c, 12, 12, 11);
        barred(c, x, 2, 2, 1, 8);
        x = starOfThree(c, 14, 12, 10);
        c.due("0 -4 -4 0: all three give as much as ahead", x.rest(2), 1);
        x = starOfThree(c, 10, 11, 10);
        c.due("0 0 -2 0: two and three give as much as ahead", x.rest(2), 1);
        x = starOfThree(c, 20, 10, 11);
        barred(c, x, 2, 0, 1, 10);
        x = starOfThree(c, 14, 12, 11);
        x.net(1);
        barred(c, x, 2, 0, 1, 0);
        x = people(c, 2, "cost 0 when all;");
        x.net(1);
        c.due("one TIE alone is never several", x.rest(2), 1);
        // nine TIES are worth -9 to j, and any fewer -10 and less, but for none
        x = people(c, 10, "news 10 when is j and ways = 1;cost 11 when is j and mine = 9;cost 20 when is j;");
        x.net(x.shape(2, 9));
        barred(c, x, 2, 2, 512, 0);
    }

    private static void swaps(Sentences s) {
        Checks c = s.of("Terms II", "SWAP: a PERSON cuts one TIE of its own and ties with another one; that PERSON gains, "
                + "and that other one does not lose.");
        String three = "who a at 9;who b at 0;who c at ";
        String rules = ";news 20 - miles when is b and ways = 1;cost 30 when is b and mine > 1;";
        TieStreet x = c.street(three + "8" + rules);
        x.net(1);
        c.due("no ADD", x.rest(1), 1);
        barred(c, x, 3, 3, 6, 4);
        x = c.street(three + "9" + rules);
        x.net(1);
        c.due("as much as ahead is not more", x.rest(3), 1);
        x = c.street(three + "8" + rules + "cost 1 when is c;");
        x.net(1);
        c.due("the other one would lose 1", x.rest(3), 1);
        x = c.street(three + "8" + rules + "cost 1 when is c;news 1 when is c and miles = 8;");
        x.net(1);
        c.due("no ADD", x.rest(1), 1);
        // c neither gains nor loses
        barred(c, x, 3, 3, 6, 4);
        x = c.street(three + "8" + rules);
        c.due("without a TIE to cut there is an ADD", x.rest(3), 0);
        c.due("bars(0)", x.bars(0), 1);
        x.net(7);
        c.due("with all TIES there is a CUT", x.rest(3), 0);
        c.due("bars(0)", x.bars(0), 0);
        // a, who is cut off, may lose as much as it will
        x = c.street(three + "8" + rules + "news 99 when is a and miles = 9;");
        x.net(1);
        barred(c, x, 3, 3, 6, 4);
        c.due("nobody else to tie with", swapOfTwo(c), 1);
    }

    private static int swapOfTwo(Checks c) {
        TieStreet x = people(c, 2, "news 5 when all;");
        x.net(1);
        return x.rest(3);
    }

    private static void togethers(Sentences s) {
        Checks c = s.of("Terms II", "TOGETHER: a TIE is cut or made, and the WORTH of its two together is more then.");
        TieStreet x = people(c, 2, "news 5 when is a;cost 4 when is b;");
        barred(c, x, 4, 4, 3, 1);
        x.net(1);
        c.due("cutting it would lose 1", x.rest(4), 1);
        x = people(c, 2, "news 5 when is a;cost 5 when is b;");
        c.due("made, it gives as much as ahead", x.rest(4), 1);
        x.net(1);
        c.due("cut, it gives as much as ahead", x.rest(4), 1);
        x = people(c, 2, "news 5 when is a;cost 6 when is b;");
        c.due("making it would lose 1", x.rest(4), 1);
        x.net(1);
        barred(c, x, 4, 4, 3, 0);
        x = people(c, 3, "cost 1 when is a;news 50 when is c;bar a c;");
        x.net(4);
        c.due("what a third one would gain does not count", x.rest(4), 1);
    }

    private static void sets(Sentences s) {
        Checks c = s.of("Terms II", "SET: some PERSONS cut TIES of which one end at least is among them, and make such of "
                + "which both are, and all of them gain.");
        TieStreet x = people(c, 5, "news 1 when ties = 10;");
        barred(c, x, 5, 5, 31, 1023);
        x = people(c, 5, "news 1 when ties = 10 and not is e;");
        c.due("one who makes TIES and does not gain", x.rest(5), 1);
        // one alone, who cuts: the other end need not gain
        x = people(c, 3, "cost 1 when is b;news 1 when is a and ways = 1;news 1 when is c and ways = 1;");
        x.net(5);
        barred(c, x, 5, 5, 2, 0);
        // one TIE alone is worth more: a and c can cut both of theirs and tie, but nobody cuts a TIE of others
        String apart = "news 5 when ties = 1 and ways = 1;news 1 when ways = 1;";
        x = people(c, 4, apart);
        x.net(33);
        barred(c, x, 5, 5, 5, 2);
        x = people(c, 4, apart + "bar a c;bar a d;bar b c;bar b d;");
        x.net(33);
        c.due("no end of the TIE that would be cut", x.rest(5), 1);
        x = people(c, 2, "news 1 when is a;cost 1 when is a;");
        c.due("nobody gains", x.rest(5), 1);
        x.net(1);
        c.due("nobody gains by cutting", x.rest(5), 1);
        c.due("of nobody", new TieStreet().rest(5), 1);
        c.due("of one", people(c, 1, "").rest(5), 1);
    }

    private static void kinds(Sentences s) {
        Checks c = s.of("Terms II", "At REST by a kind: 0 no CUT; 1 no CUT, no ADD; 2 and no SEVERAL; 3 no CUT, no ADD, "
                + "no SWAP; 4 no TOGETHER; 5 no SET");
        // b neither gains nor loses by it, so b is of no SET
        rests(c, "an ADD alone", people(c, 2, "news 1 when is a;"), "100001");
        TieStreet x = people(c, 2, "news 9 when is a;cost 1 when is b;");
        x.net(1);
        rests(c, "a CUT, not together", x, "000010");
        // what one cuts alone is a SET, too
        rests(c, "a SEVERAL alone", starOfThree(c, 14, 12, 11), "110110");
        x = c.street("who a at 9;who b at 0;who c at 8;news 20 - miles when is b and ways = 1;"
                + "cost 30 when is b and mine > 1;");
        x.net(1);
        // c neither gains nor loses by it, so c is of no SET
        rests(c, "a SWAP alone", x, "111011");
        rests(c, "a TOGETHER alone", people(c, 2, "news 9 when is a;cost 1 when is b;"), "111101");
        rests(c, "a SET alone", people(c, 3, "news 9 when ties = 3;cost 1 when all;"), "111110");
        rests(c, "nothing", people(c, 3, ""), "111111");
        rests(c, "nobody", new TieStreet(), "111111");
    }

    private static void rests(Checks c, String what, TieStreet x, String want) {
        for (int kind = 0; kind <= 5; kind++) {
            c.due(what + ", rest(" + kind + ")", x.rest(kind), want.charAt(kind) - '0');
        }
    }

    private static void fewAlone(Sentences s) {
        Checks c = s.of("Terms II", "(of few alone: 5 PERSONS at most)");
        c.due("of five", people(c, 5, "").rest(5), 1);
        c.due("of six", people(c, 6, "").rest(5), -1);
        c.due("of ten", people(c, 10, "").rest(5), -1);
        TieStreet x = people(c, 5, "news 1 when ways = 1;");
        c.due("the last PERSON is looked at", x.net(1023 - 512) && x.rest(5) == 0, true);
        c.due("bars(2)", x.bars(2), 1023);
    }

    private static void orderOfCutsAndAdds(Sentences s) {
        Checks c = s.of("Terms II", "CUTS by PAIRS, the lesser PERSON first; then ADDS by PAIRS");
        TieStreet x = people(c, 3, "cost 1 when all;");
        x.net(7);
        barred(c, x, 0, 0, 1, 6);
        x.net(6);
        barred(c, x, 0, 0, 1, 4);
        x.net(4);
        barred(c, x, 0, 0, 2, 0);
        x = people(c, 3, "cost 1 when is c;");
        x.net(7);
        barred(c, x, 0, 0, 4, 5);
        x = people(c, 3, "news 1 when ways = 1;");
        barred(c, x, 1, 1, 3, 1);
        x.net(1);
        barred(c, x, 1, 1, 5, 3);
        x.net(3);
        barred(c, x, 1, 1, 6, 7);
        // an ADD of PAIR 0, a CUT of PAIR 2
        x = people(c, 3, "news 1 when is a and ways = 1;cost 1 when is c;");
        x.net(4);
        for (int kind = 0; kind <= 3; kind++) {
            barred(c, x, kind, 0, 4, 0);
        }
        x = people(c, 10, "cost 1 when is j;");
        x.net(1L << 44);
        barred(c, x, 1, 0, 512, 0);
    }

    private static void orderOfSeveralsAndSwaps(Sentences s) {
        Checks c = s.of("Terms II", "then SEVERAL by PERSONS, and the set of PAIRS cut as a number, lesser ones first");
        // 0 -1 -4 -3: any two do, and all three do better
        TieStreet x = starOfThree(c, 11, 12, 11);
        barred(c, x, 2, 2, 1, 8);
        // the same for everyone, with all TIES of four: a is the first
        x = people(c, 4, "news 10 when ways = 1;cost 12 when mine = 2;cost 11 when all;");
        x.net(63);
        c.due("rest(1)", x.rest(1), 1);
        barred(c, x, 2, 2, 1, 63 - 3);
        // the same for d alone
        x = people(c, 4, "news 10 when is d and ways = 1;cost 12 when is d and mine = 2;cost 11 when is d;");
        x.net(56);
        barred(c, x, 2, 2, 8, 32);
        // the last set of two alone: by those of b and c
        x = c.street("who a at 0;who b at 10;who c at 10;who d at 0;news 20 - miles when is d and ways = 1;"
                + "cost 11 when is d and mine = 3;cost 20 when is d and mine = 2;cost 11 when is d;");
        x.net(56);
        barred(c, x, 2, 2, 8, 8);

        c = s.of("Terms II", "SWAPS by PERSONS, the PAIR cut, the PAIR made.");
        String rules = "news 20 - miles when ways = 1;cost 30 when mine > 1;";
        x = c.street("who a at 0;who b at 9;who c at 8;who d at 1;" + rules);
        x.net(1);
        // a with c, though d is nearer, and though b would have c, too
        c.due("rest(1): c and d tie", x.rest(1), 0);
        x = c.street("who a at 0;who b at 9;who c at 8;who d at 1;bar c d;" + rules);
        x.net(1);
        c.due("rest(1)", x.rest(1), 1);
        barred(c, x, 3, 3, 5, 2);
        x = c.street("who a at 0;who b at 9;who c at 8;who d at 1;bar c d;bar a c;" + rules);
        x.net(1);
        barred(c, x, 3, 3, 9, 8);
        x = c.street("who a at 0;who b at 9;who c at 8;who d at 1;bar c d;bar a c;bar a d;" + rules);
        x.net(1);
        barred(c, x, 3, 3, 6, 4);
        // c is tied with a and b, who are both farther than d and e: PAIR 1 is cut, PAIR 5 is made
        x = c.street("who a at 9;who b at 9;who c at 0;who d at 5;who e at 4;news 20 - miles when ways = 1 and is c;"
                + "cost 30 when is c and mine > 2;");
        x.net(6);
        barred(c, x, 3, 3, 12, 4 + 32);
    }

    private static void orderOfTogethersAndSets(Sentences s) {
        Checks c = s.of("Terms II", "TOGETHER by PAIRS.");
        TieStreet x = people(c, 3, "news 1 when is a and ways = 1;cost 1 when is c;");
        x.net(4);
        barred(c, x, 4, 4, 3, 5);
        x.net(5);
        barred(c, x, 4, 4, 6, 1);
        x.net(1);
        c.due("nothing is left", x.rest(4), 1);
        x = people(c, 10, "news 1 when is j and ways = 1;bar a j;bar b j;bar c j;bar d j;bar e j;bar f j;bar g j;bar h j;");
        barred(c, x, 4, 4, 768, 1L << 44);

        c = s.of("Terms II", "SETS by the NET that comes of it, lesser numbers first, then by the PERSONS as a number.");
        x = people(c, 3, "news 1 when ways = 1;");
        barred(c, x, 5, 5, 3, 1);
        x.net(4);
        // 0 and 1 and 2 and 3 are worse to one of those who would make or cut; 5 is the least
        barred(c, x, 5, 5, 3, 5);
        // all three cut all TIES: a and b can, a and c can, b and c can, and all three can
        x = people(c, 3, "news 0 - 1 when all;");
        x.net(7);
        barred(c, x, 5, 5, 3, 0);
        // b's gain alone is enough to cut both of its TIES
        x = people(c, 3, "news 0 - 1 when all;");
        x.net(5);
        barred(c, x, 5, 5, 2, 0);
    }

    private static void personsAsBits(Sentences s) {
        Checks c = s.of("Terms II", "(PERSONS of a CHANGE, as bits: who cuts; both; who cuts; the first one, and the other "
                + "one with whom it ties; both; the set.)");
        TieStreet x = people(c, 10, "cost 1 when is j;");
        x.net(1L << 44);
        barred(c, x, 0, 0, 512, 0);
        x = people(c, 10, "news 1 when is j and ties = 1;bar a j;bar b j;bar c j;bar d j;bar e j;bar f j;bar g j;bar h j;");
        barred(c, x, 1, 1, 768, 1L << 44);
        barred(c, x, 4, 4, 768, 1L << 44);
        x = people(c, 10, "news 10 when is j and ways = 1;cost 15 when is j and mine = 1;cost 11 when is j;");
        x.net(1L << 43 | 1L << 44);
        barred(c, x, 2, 2, 512, 0);
        // j swaps i, who is left out, for a
        x = c.street("who a at 1;who b at 9;who c at 9;who d at 9;who e at 9;who f at 9;who g at 9;who h at 9;who i at 9;"
                + "who j at 0;news 20 - miles when is j and ways = 1;cost 30 when is j and mine > 1;");
        x.net(1L << 44);
        barred(c, x, 3, 3, 513, 1L << 36);
        x = people(c, 5, "news 1 when is e and ties = 1;news 1 when is d and ties = 1;");
        barred(c, x, 5, 5, 24, 512);
    }

    private static void restCalls(Sentences s) {
        Checks c = s.of(14, "Whether THE NET is at REST by a kind: 1, 0");
        TieStreet x = people(c, 10, "news 1 when ways = 1;");
        x.net((1L << 45) - 1);
        for (int kind = 0; kind <= 4; kind++) {
            c.due("all TIES of ten, rest(" + kind + ")", x.rest(kind), 1);
        }
        x.net((1L << 44) - 1);
        for (int kind = 0; kind <= 4; kind++) {
            c.due("all TIES of ten but the last, rest(" + kind + ")", x.rest(kind), kind == 0 ? 1 : 0);
        }
        c.due("THE NET stays", x.net(), (1L << 44) - 1);

        c = s.of(14, "NONE when there is no such kind, or too many PERSONS for it.");
        x = people(c, 6, "");
        for (int kind : new int[] {-1, 6, Integer.MIN_VALUE, Integer.MAX_VALUE}) {
            c.due("rest(" + kind + ")", x.rest(kind), -1);
        }
        c.due("rest(5) of six", x.rest(5), -1);
        c.due("rest(4) of six", x.rest(4), 1);
        c.due("rest(5) of five", people(c, 5, "").rest(5), 1);
    }

    private static void barCalls(Sentences s) {
        sortsOfChange(s);
        Checks c = s.of(15, "(of the latest rest() that was 0)");
        TieStreet x = people(c, 6, "news 1 when ways = 1;");
        barred(c, x, 1, 1, 3, 1);
        x.net(x.shape(1, 0));
        c.due("rest(1)", x.rest(1), 1);
        c.due("rest(9)", x.rest(9), -1);
        c.due("rest(5) of six", x.rest(5), -1);
        x.edge(1, 5, 5, false);
        x.step(-1);
        x.go();
        x.lie(0);
        x.gifts(2);
        c.due("bars(0) stays", x.bars(0), 1);
        c.due("bars(1) stays", x.bars(1), 3);
        c.due("bars(2) stays", x.bars(2), 1);
        x.net(1);
        barred(c, x, 4, 4, 5, 3);

        c = s.of(15, "NONE without one, or for others.");
        for (int what : new int[] {-1, 3, Integer.MIN_VALUE, Integer.MAX_VALUE}) {
            c.due("bars(" + what + ")", x.bars(what), -1);
        }
        x = people(c, 2, "");
        for (int what = 0; what <= 2; what++) {
            c.due("ahead of any, bars(" + what + ")", x.bars(what), -1);
        }
        x.rest(0);
        x.rest(6);
        for (int what = 0; what <= 2; what++) {
            c.due("none that was 0, bars(" + what + ")", x.bars(what), -1);
        }
    }

    private static void sortsOfChange(Sentences s) {
        Checks c = s.of(15, "0 the sort of CHANGE (0 CUT, 1 ADD, 2 SEVERAL, 3 SWAP, 4 TOGETHER, 5 SET), 1 its PERSONS as bits, "
                + "2 the NET that comes of it.");
        TieStreet x = people(c, 2, "cost 1 when is b;");
        x.net(1);
        barred(c, x, 0, 0, 2, 0);
        barred(c, people(c, 2, "news 1 when is b;"), 1, 1, 3, 1);
        barred(c, starOfThree(c, 14, 12, 11), 2, 2, 1, 0);
        x = c.street("who a at 0;who b at 9;who c at 1;news 20 - miles when is a and ways = 1;cost 30 when is a and mine > 1;");
        x.net(1);
        barred(c, x, 3, 3, 5, 2);
        barred(c, people(c, 2, "news 2 when is b;cost 1 when is a;"), 4, 4, 3, 1);
        barred(c, people(c, 2, "news 2 when all;"), 5, 5, 3, 1);
    }
}
