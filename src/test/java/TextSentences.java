/** Sentences of Terms I: what a LAND is, and what SUMS and TESTS give. FAULTS have FaultSentences. */
final class TextSentences {
    private static final String[] OWN = {"who", "at", "cost", "when", "news", "bar", "most", "or", "and", "not", "all",
        "is", "ways", "miles", "mine", "theirs", "ties", "min", "max"};

    static void ask(Sentences s) {
        blanks(s);
        people(s);
        rules(s);
        bars(s);
        most(s);
        names(s);
        ownWords(s);
        tests(s);
        parts(s);
        divisions(s);
        limits(s);
        facts(s);
    }

    /** So many PERSONS: a, b, c and so on, each at 0. */
    static String people(int n) {
        StringBuilder text = new StringBuilder();
        for (int p = 0; p < n; p++) {
            text.append("who ").append((char) ('a' + p)).append(" at 0;");
        }
        return text.toString();
    }

    private static void blanks(Sentences s) {
        Checks c = s.of("Terms I", "A LAND is a text with blanks (10, 32) between where one likes");
        c.fault("\n who \n\n a  at\n5 \n ; \n", 0, 1);
        c.fault("cost\n( 1 +\n2 ) * min\n( 3 , 4 )\nwhen\n[ 1 <\n2 ] ;", 0, 1);
        c.fault(" ".repeat(400) + "who a at 5;" + "\n".repeat(389), 0, 1);
        for (int b = 0; b < 256; b++) {
            String text = "who a at 5" + (char) b + ";";
            if (b == 10 || b == 32 || (b >= '0' && b <= '9')) {
                c.fault(text, 0, 1);
            } else {
                c.fault(text, 1, b == ';' ? 11 : 10);
            }
        }

        c = s.of("Terms I", "(words and numbers side by side need one)");
        c.fault("whoa at 5;", 1, 0);
        c.fault("who aat 5;", 1, 8);
        c.fault("who a at5;", 1, 8);
        c.fault("who a5;", 1, 5);
        c.fault("cost5 when all;", 1, 4);
        c.fault("cost 5when all;", 1, 6);
        c.fault("cost 5 when 5<6and all;", 1, 15);
        c.fault("cost 5 when not5<6;", 1, 15);
        c.fault("who a at 1;most a5;", 1, 17);
        // 40 and 59 are the bytes of ( and ;
        c.fault("cost40 1)when all;", 1, 4);
        c.fault("cost 1 when all59", 1, 15);
        c.fault("cost(5)when[all]and[5<6]or[all];", 0, 1);
        c.fault("cost min(5,6)when not[all];who a at 5;", 0, 2);

        c = s.of("Terms I", "{ STATEMENT ; }");
        c.fault("", 0, 0);
        c.fault(" ", 0, 0);
        c.fault(";", 1, 0);
        c.fault("who a at 5;;", 1, 11);
        c.fault("who a at 5", 1, 10);
        c.fault("who a at 5 who b at 5;", 1, 11);
    }

    private static void people(Sentences s) {
        Checks c = s.of("Terms I", "who NAME at N (a PERSON, and where on the street, 0 .. 999; 10 at most)");
        c.fault("who a at 0;", 0, 1);
        c.fault("who a at 999;", 0, 1);
        c.fault("who a at 0999;", 0, 1);
        c.fault("who a at 1000;", 2, 9);
        c.fault("who a at 9999;", 2, 9);
        c.fault(people(10), 0, 10);
        c.fault(people(10) + "who k at 0;", 5, 110);
        TieStreet x = c.street("who a at 0; who b at 999; news miles when all;");
        x.net(1);
        c.due("from one end to the other", x.worth(0), 999);
    }

    private static void rules(Sentences s) {
        Checks c = s.of("Terms I", "(20 of both at most)");
        String cost = "cost 1 when all;";
        String news = "news 1 when all;";
        c.fault(cost.repeat(20), 0, 20);
        c.fault(news.repeat(20), 0, 20);
        c.fault(cost.repeat(10) + news.repeat(10), 0, 20);
        c.fault(cost.repeat(21), 5, 320);
        c.fault(news.repeat(21), 5, 320);
        c.fault(cost.repeat(20) + news, 5, 320);
        c.fault(news.repeat(20) + cost, 5, 320);
        c.fault("cost 1 when 1>2;".repeat(19) + "news 7 when all;" + people(2), 0, 22);
        TieStreet x = c.street("news 1 when 1>2;".repeat(19) + "news 7 when all;" + people(2));
        x.net(1);
        c.due("the twentieth holds", x.worth(0), 7);
    }

    private static void bars(Sentences s) {
        Checks c = s.of("Terms I", "bar NAME NAME (two unlike PERSONS who may not tie; 20 at most)");
        String two = people(2);
        c.fault(two + "bar a b;".repeat(20), 0, 22);
        c.fault(two + "bar a b;bar b a;".repeat(10), 0, 22);
        c.fault(two + "bar a b;".repeat(21), 5, 22 + 160);
        c.fault(two + "bar a a;", 3, 28);
        TieStreet x = c.street(people(3) + "bar b a;");
        c.due("the two", x.net(1), false);
        c.due("others", x.net(6), true);
        x = c.street(people(3) + "bar a b;".repeat(19) + "bar c b;");
        c.due("the twentieth counts", x.net(4), false);
    }

    private static void most(Sentences s) {
        Checks c = s.of("Terms I", "most NAME N (a PERSON has N TIES at most, 0 .. 9; the last one counts; 9 without)");
        c.fault("who a at 0;most a 0;", 0, 2);
        c.fault("who a at 0;most a 9;", 0, 2);
        c.fault("who a at 0;most a 10;", 2, 18);
        c.fault("who a at 0;" + "most a 3;".repeat(87), 0, 88);
        TieStreet x = c.street(people(10));
        c.due("nine without", x.net(x.shape(2, 0)), true);
        x = c.street(people(10) + "most a 9;");
        c.due("nine", x.net(x.shape(2, 0)), true);
        x = c.street(people(10) + "most a 8;");
        c.due("nine where eight are the most", x.net(x.shape(2, 0)), false);
        c.due("eight where eight are the most", x.net(x.shape(2, 0) & ~1), true);
        x = c.street(people(2) + "most b 0;");
        c.due("one where none is the most", x.net(1), false);
        c.due("none where none is the most", x.net(0), true);
        x = c.street(people(2) + "most b 1;most b 0;");
        c.due("the last one is less", x.net(1), false);
        x = c.street(people(2) + "most b 0;most b 1;");
        c.due("the last one is more", x.net(1), true);
        x = c.street(people(2) + "most b 0;most b 9;most a 9;");
        c.due("the last one of another PERSON does not count", x.net(1), true);
    }

    private static void names(Sentences s) {
        Checks c = s.of("Terms I", "NAMES: 1 to 6 letters");
        c.fault("who a at 0;", 0, 1);
        c.fault("who z at 0;", 0, 1);
        c.fault("who abcxyz at 0;", 0, 1);
        c.fault("who abcxyza at 0;", 1, 10);
        c.fault("who  at 0;", 1, 5);
        c.fault("who 1 at 0;", 1, 4);
        for (char beside : new char[] {'a' - 1, 'z' + 1, 'A', 'Z', '_', '-', (char) 228}) {
            c.fault("who " + beside + " at 0;", 1, 4);
            c.fault("who a" + beside + " at 0;", 1, 5);
        }

        c = s.of("Terms I", "no OWN WORD, unlike ones");
        for (String word : OWN) {
            c.fault("who " + word + " at 0;", 1, 4);
            c.fault("who a at 0;bar " + word + " a;", 1, 15);
            c.fault("who a at 0;bar a " + word + ";", 1, 17);
            c.fault("who a at 0;most " + word + " 1;", 1, 16);
            c.fault("cost 1 when is " + word + ";", 1, 15);
        }
        c.fault("who a at 0;who a at 1;", 3, 15);
        c.fault("who a at 0;who aa at 1;who b at 0;who abcdef at 0;who abcdeg at 0;who abcde at 0;", 0, 6);

        c = s.of("Terms I", "told ahead of where they are asked");
        c.fault("bar a b;" + people(2), 3, 4);
        c.fault("who a at 0;bar a b;who b at 0;", 3, 17);
        c.fault("most a 1;who a at 0;", 3, 5);
        c.fault("cost 1 when is a;who a at 0;", 3, 15);
        c.fault("who a at 0;who b at 0;bar a b;most b 1;cost 1 when is b;", 0, 5);
    }

    private static void ownWords(Sentences s) {
        Checks c = s.of("Terms I", "OWN WORDS: who, at, cost, when, news, bar, most, or, and, not, all, is, ways, miles, "
                + "mine, theirs, ties, min, max.");
        for (String word : OWN) {
            String shorter = word.substring(0, word.length() - 1);
            boolean own = shorter.equals("min");
            c.fault("who " + shorter + " at 0;", own ? 1 : 0, own ? 4 : 1);
            if (word.length() < 6) {
                c.fault("who " + word + "x at 0;", 0, 1);
                c.fault("who x" + word + " at 0;", 0, 1);
            }
        }
        for (String word : new String[] {"people", "have", "or", "to", "way", "mile", "their", "tie", "name", "n"}) {
            boolean own = word.equals("or");
            c.fault("who " + word + " at 0;", own ? 1 : 0, own ? 4 : 1);
        }
    }

    /** Whether a TEST holds of a and b, who are 7 apart and tied, alone. */
    private static void test(Checks c, String test, boolean want) {
        TieStreet x = c.street("who a at 0; who b at 7; news 1 when is a and [" + test + "];");
        x.net(1);
        c.due(test, x.worth(0), want ? 1 : 0);
    }

    private static void tests(Sentences s) {
        Checks c = s.of("Terms I", "TEST: BOTH { or BOTH }. BOTH: FACT { and FACT }.");
        test(c, "all or all and not all", true);
        test(c, "not all and all or all", true);
        test(c, "[all or all] and not all", false);
        test(c, "not all or not all or all", true);
        test(c, "all and all and not all", false);
        test(c, "not all and not all", false);
        c.fault("cost 1 when " + "all or ".repeat(112) + "all;", 0, 1);
        c.fault("cost 1 when " + "all and ".repeat(98) + "all;", 0, 1);
        String few = "who a at 0; who b at 7; news 1 when ";
        TieStreet x = c.street(few + "1=2 or ".repeat(100) + "is a;");
        x.net(1);
        c.due("the last of 101 or", x.worth(0) * 10 + x.worth(1), 10);
        x = c.street(few + "all and ".repeat(90) + "is b;");
        x.net(1);
        c.due("the last of 91 and", x.worth(0) * 10 + x.worth(1), 1);

        c = s.of("Terms I", "FACT: not FACT; [ TEST ] ; all");
        test(c, "all", true);
        test(c, "not all", false);
        test(c, "not not all", true);
        test(c, "[all]", true);
        test(c, "[[not all]]", false);
        test(c, "not [all and not all]", true);
        test(c, "not 1 < 1", true);
        test(c, "not all or all", true);
        c.fault("cost 1 when ;", 1, 12);
        c.fault("cost 1 when [];", 1, 13);
        c.fault("cost 1 when not [;", 1, 17);

        c = s.of("Terms I", "is NAME (the first of the two is that PERSON)");
        test(c, "is a", true);
        test(c, "is b", false);
        x = c.street(TextSentences.people(10) + "news 1 when is a;news 2 when is j;cost 1 when is j;");
        x.net(1L << 36);
        c.due("the first PERSON", x.worth(0), 1);
        c.due("the last PERSON", x.worth(9), 1);
        c.due("PERSONS to whom no way leads", x.worth(1), 0);

        c = s.of("Terms I", "SUM SIGN SUM, SIGN < or > or = .");
        test(c, "6 < 7", true);
        test(c, "7 < 7", false);
        test(c, "8 < 7", false);
        test(c, "6 > 7", false);
        test(c, "7 > 7", false);
        test(c, "8 > 7", true);
        test(c, "6 = 7", false);
        test(c, "7 = 7", true);
        test(c, "8 = 7", false);
        test(c, "0 - 1 < 0", true);
        test(c, "0 > 0 - 1", true);
    }

    /** What a SUM gives to a of b, who are 7 apart, in a star of three TIES about a. */
    private static void sum(Checks c, String sum, long want) {
        TieStreet x = c.street("who a at 0;who b at 7;who c at 0;who d at 0;news " + sum + " when is a and miles=7;");
        x.net(x.shape(2, 0));
        c.due(sum, x.worth(0), want);
    }

    private static void parts(Sentences s) {
        Checks c = s.of("Terms I", "PART: N (1 to 4 digits)");
        sum(c, "0", 0);
        sum(c, "9", 9);
        sum(c, "9999", 9999);
        sum(c, "0000", 0);
        sum(c, "0012", 12);
        c.fault("cost 10000 when all;", 1, 9);
        c.fault("cost 00000 when all;", 1, 9);
        c.fault("cost when all;", 1, 5);

        c = s.of("Terms I", "All from the left on");
        sum(c, "10 - 4 - 3", 3);
        sum(c, "10 - 4 + 3", 9);
        sum(c, "100 / 7 * 7", 98);
        sum(c, "100 / 7 / 2", 7);
        sum(c, "2 + 3 * 4", 14);
        sum(c, "10 - 2 * 3", 4);
        sum(c, "1" + "+1".repeat(330), 331);

        c = s.of("Terms I", "SUM: PRODUCT { + or - PRODUCT }. PRODUCT: PART { * or / PART }.");
        sum(c, "7", 7);
        sum(c, "(7)", 7);
        sum(c, "1 * 2 + 3 * 4", 14);
        sum(c, "1 * (2 + 3) * 4", 20);
        sum(c, "20 - 12 / 4", 17);
        sum(c, "1" + "*1".repeat(330), 1);
        c.fault("cost 1" + "+1".repeat(392) + " when all;", 0, 1);
        c.fault("cost 1" + "/1".repeat(392) + " when all;", 0, 1);

        c = s.of("Terms I", "min ( SUM , SUM ) ; max ( SUM , SUM ) .");
        sum(c, "min(4, 4)", 4);
        sum(c, "min(4, 5)", 4);
        sum(c, "min(5, 4)", 4);
        sum(c, "max(4, 5)", 5);
        sum(c, "max(5, 4)", 5);
        sum(c, "min(0 - 1, 0) + 10", 9);
        sum(c, "max(0 - 1, 0 - 2) + 10", 9);
        c.fault("cost min() when all;", 1, 9);
        c.fault("cost min(1) when all;", 1, 10);
        c.fault("cost min(1,) when all;", 1, 11);
        c.fault("cost max(1,2,3) when all;", 1, 12);
    }

    private static void divisions(Sentences s) {
        Checks c = s.of("Terms I", "/ gives the greatest whole number not above");
        sum(c, "6 / 2", 3);
        sum(c, "7 / 2", 3);
        sum(c, "1 / 2", 0);
        sum(c, "0 / 2", 0);
        sum(c, "(0 - 1) / 2", -1);
        sum(c, "(0 - 6) / 2", -3);
        sum(c, "(0 - 7) / 2", -4);
        sum(c, "7 / (0 - 2)", -4);
        sum(c, "6 / (0 - 2)", -3);
        sum(c, "(0 - 7) / (0 - 2)", 3);
        sum(c, "(0 - 1) / 9999", -1);
        sum(c, "(0 - 1000 * 1000) / 1", -1000000);
        sum(c, "(0 - 1000 * 1000) / (0 - 1)", 1000000);

        c = s.of("Terms I", "by 0 it gives 0");
        sum(c, "5 / 0", 0);
        sum(c, "0 / 0", 0);
        sum(c, "(0 - 5) / 0", 0);
        sum(c, "5 / (mine - 3)", 0);
        sum(c, "5 / 0 + 4", 4);
        sum(c, "5 / 0 / 0 * 3", 0);
    }

    private static void limits(Sentences s) {
        Checks c = s.of("Terms I", "each sum, difference, product above 10 to the 6 is that");
        sum(c, "1000 * 1000", 1000000);
        sum(c, "1000 * 1000 - 1", 999999);
        sum(c, "999 * 1001", 999999);
        sum(c, "1000 * 1000 + 1", 1000000);
        sum(c, "1000 * 1000 + 1 - 1", 999999);
        sum(c, "1000 * 1000 - (0 - 1)", 1000000);
        sum(c, "1000 * 1000 - (0 - 1) - 2", 999998);
        sum(c, "1001 * 1000", 1000000);
        sum(c, "1001 * 1000 - 1", 999999);
        sum(c, "9999 * 9999 * 9999 * 9999 - 1", 999999);
        sum(c, "9999 * 9999 / 1000", 1000);
        sum(c, "(0 - 9999) * (0 - 9999) - 1", 999999);
        TieStreet x = c.street(people(3) + "news 9999 * 9999 when all;");
        x.net(7);
        c.due("WORTH itself may be above it", x.worth(0), 2000000);

        c = s.of("Terms I", "below -10 to the 6 likewise");
        sum(c, "0 - 1000 * 1000", -1000000);
        sum(c, "0 - 1000 * 1000 + 1", -999999);
        sum(c, "0 - 1000 * 1000 - 1", -1000000);
        sum(c, "0 - 1000 * 1000 - 1 + 1", -999999);
        sum(c, "0 - 1000 * 1000 + (0 - 1)", -1000000);
        sum(c, "0 - 1000 * 1000 + (0 - 1) + 2", -999998);
        sum(c, "(0 - 1001) * 1000", -1000000);
        sum(c, "(0 - 1001) * 1000 + 1", -999999);
        sum(c, "(0 - 9999) * 9999 * 9999 + 1", -999999);
    }

    private static void facts(Sentences s) {
        Checks c = s.of("Terms I", "how many TIES the shortest way from one to the other has");
        sum(c, "ways", 1);
        TieStreet x = c.street(people(10) + "news ways when is a;");
        x.net(x.shape(3, 0));
        c.due("1 to 9", x.worth(0), 45);
        x.net(x.shape(4, 0));
        c.due("round both sides of a ring: 1 to 5, and 1 to 4", x.worth(0), 25);

        c = s.of("Terms I", "how far apart they are on the street");
        x = c.street("who a at 999; who b at 0; news 1 + miles when all;");
        x.net(1);
        c.due("down the street", x.worth(0), 1000);
        c.due("up the street", x.worth(1), 1000);
        x = c.street("who a at 5; who b at 5; news 1 + miles when all;");
        x.net(1);
        c.due("not at all", x.worth(0), 1);

        c = s.of("Terms I", "how many TIES the first has, the second has, all have.");
        sum(c, "mine", 3);
        sum(c, "theirs", 1);
        sum(c, "ties", 3);
        x = c.street(people(10) + "news mine * 100 + theirs when is a and ways = 1; news ties when is b and ways = 1;");
        x.net((1L << 45) - 1);
        c.due("nine each", x.worth(0), 9 * 909);
        c.due("45 in all", x.worth(1), 9 * 45);
        x.net(1);
        c.due("one each", x.worth(0), 101);
        c.due("one in all", x.worth(1), 1);
    }
}
