/** Sentences of Terms I: FAULTS of a text and their places. */
final class FaultSentences {
    private static final String A = "who a at 0;";
    private static final String TWO = A + "who b at 0;";

    static void ask(Sentences s) {
        firstAlong(s);
        bytes(s);
        wholeWords(s);
        longOnes(s);
        tooSoon(s);
        numbers(s);
        names(s);
        open(s);
        notOpen(s);
        tooMany(s);
    }

    private static void firstAlong(Sentences s) {
        Checks c = s.of("Terms I", "FAULTS, the first along the text");
        c.fault("x" + "who a at 1000;", 1, 0);
        c.fault("who a at 1000;x", 2, 9);
        c.fault(A + "bar a a x", 3, 17);
        c.fault(A + "bar a x a", 3, 17);
        c.fault("cost (((((((x", 4, 11);
        c.fault("cost ((((((x(", 1, 11);
        String ten = TextSentences.people(10);
        c.fault(ten + "who a at 1000;x", 5, 110);
        c.fault(ten + "x;who a at 0;", 1, 110);
        c.fault(ten + "bar a a;who a at 0;", 3, 116);
        c.fault("who a at 1000", 2, 9);
        c.fault("bar a", 3, 4);
    }

    private static void bytes(Sentences s) {
        Checks c = s.of("Terms I", "1 the first byte with which no LAND goes on");
        for (int b = 0; b < 256; b++) {
            boolean letter = b >= 'a' && b <= 'z';
            boolean blank = b == 10 || b == 32;
            c.fault("" + (char) b, blank ? 0 : 1, 0);
            c.fault("who " + (char) b, 1, letter || blank ? 5 : 4);
        }
        c.fault(A + "bar a 1;", 1, 17);
        c.fault("who a at b;", 1, 9);
        c.fault("who a at -1;", 1, 9);
        c.fault("who a ;", 1, 6);
        c.fault("cost 1;", 1, 6);
        c.fault("cost 1 when 1;", 1, 13);
        c.fault("cost 1 when 1<2<3;", 1, 15);
        c.fault("cost 1 when (all);", 1, 13);
        c.fault("cost 1 when [1];", 1, 14);
        c.fault("cost [1] when all;", 1, 5);
        c.fault("cost 1 2 when all;", 1, 7);
        c.fault("cost 1) when all;", 1, 6);
        c.fault("cost (1] when all;", 1, 7);
        c.fault("cost () when all;", 1, 6);
        for (String sign : new String[] {"+", "-", "*", "/"}) {
            c.fault("cost 1 " + sign + " when all;", 1, 9);
            c.fault("cost 1 " + sign + sign + " 1 when all;", 1, 8);
            c.fault("cost " + sign + " 1 when all;", 1, 5);
            c.fault("cost (1 " + sign + ") when all;", 1, 9);
        }
        for (String sign : new String[] {"<", ">", "="}) {
            c.fault("cost 1 when 1 " + sign + ";", 1, 15);
            c.fault("cost 1 when " + sign + " 1;", 1, 12);
            c.fault("cost 1 when 1 " + sign + sign + " 1;", 1, 15);
        }
        c.fault("cost 1 when all and or all;", 1, 20);
        c.fault("cost 1 when all or and all;", 1, 19);
        c.fault("cost 1 when all not all;", 1, 16);
        c.fault("cost 1 when [all);", 1, 16);
        c.fault("cost 1 when not;", 1, 15);
        c.fault("cost 1 when is a;", 3, 15);
        c.fault("cost 1 when all or;", 1, 18);
    }

    private static void wholeWords(Sentences s) {
        Checks c = s.of("Terms I", "words and numbers whole, at their first byte");
        c.fault("wh", 1, 0);
        c.fault("whom a at 0;", 1, 0);
        c.fault("  whom a at 0;", 1, 2);
        c.fault("who a an 0;", 1, 6);
        c.fault("who a att 0;", 1, 6);
        c.fault("who a 12345 0;", 1, 6);
        c.fault("12345", 1, 0);
        c.fault("cost 1 whenever all;", 1, 7);
        c.fault("cost minimum(1,2) when all;", 1, 5);
        c.fault("cost abcdefghijk when all;", 1, 5);
        c.fault("cost 1 when all orr all;", 1, 16);
        c.fault("cost 1 when alll;", 1, 12);
        c.fault("cost 1 when all 12345;", 1, 16);
    }

    private static void longOnes(Sentences s) {
        Checks c = s.of("Terms I", "where a number, a NAME is asked, a 5th digit, a 7th letter of what is no OWN WORD "
                + "at itself");
        c.fault("who a at 12345;", 1, 13);
        c.fault("who a at 00000;", 1, 13);
        c.fault("who a at " + "9".repeat(791), 1, 13);
        c.fault(A + "most a 00009;", 1, 22);
        c.fault("cost 12345 when all;", 1, 9);
        c.fault("cost 1+12345 when all;", 1, 11);
        c.fault("cost 1 when 1<12345;", 1, 18);
        c.fault("who abcdefg at 0;", 1, 10);
        c.fault("who theirsx at 0;", 1, 10);
        c.fault("who " + "a".repeat(796), 1, 10);
        c.fault(A + "bar abcdefg a;", 1, 21);
        c.fault(A + "bar a abcdefg;", 1, 23);
        c.fault(A + "most abcdefg 1;", 1, 22);
        c.fault("cost 1 when is abcdefg;", 1, 21);

        c = s.of("Terms I", "an OWN WORD where a NAME must be");
        c.fault("who theirs at 0;", 1, 4);
        c.fault("who at at 0;", 1, 4);
        c.fault(A + "bar all a;", 1, 15);
        c.fault(A + "bar a ways;", 1, 17);
        c.fault(A + "most most 1;", 1, 16);
        c.fault("cost 1 when is not all;", 1, 15);
    }

    private static void tooSoon(Sentences s) {
        Checks c = s.of("Terms I", "at the text's length, if it ends too soon");
        String[] pieces = {"who", " a", " at", " 5", "; who b at 1; bar", " a", " b", "; most", " a", " 3", "; cost",
            " (", "1", " +", " min", "(", " 2", " ,", " ways", ")", ")", " *", " 3", " when", " not", " [", " all", " or",
            " is", " a", " and", " 1", " <", " 2", " ]"};
        StringBuilder text = new StringBuilder();
        for (String piece : pieces) {
            text.append(piece);
            c.fault(text.toString(), 1, text.length());
            c.fault(text + " \n ", 1, text.length() + 3);
        }
        c.fault(text + ";", 0, 5);
        c.fault(" ".repeat(797) + "who", 1, 800);
        c.fault("who" + " ".repeat(797), 1, 800);
    }

    private static void numbers(Sentences s) {
        Checks c = s.of("Terms I", "2 a number (of 1 to 4 digits) that can't be, at it");
        c.fault("who a at 999;", 0, 1);
        c.fault("who a at 1000;", 2, 9);
        c.fault("who a at  9999 ;", 2, 10);
        c.fault("who a at 1000", 2, 9);
        c.fault("who a at 10000;", 1, 13);
        c.fault(A + "most a 9;", 0, 2);
        c.fault(A + "most a 0009;", 0, 2);
        c.fault(A + "most a 10;", 2, 18);
        c.fault(A + "most a 9999;", 2, 18);
        c.fault(A + "most a 10000;", 1, 22);
        c.fault("cost 9999 when 9999=9999;", 0, 1);
    }

    private static void names(Sentences s) {
        Checks c = s.of("Terms I", "3 a NAME to be given that is there already");
        c.fault(A + "who a at 0;", 3, 15);
        c.fault(TWO + "who a at 0;", 3, 26);
        c.fault(TWO + "who b", 3, 26);
        c.fault(A + "who aa at 0;", 0, 2);
        c.fault("who abcdef at 0;who abcdef at 0;", 3, 20);

        c = s.of("Terms I", "one that is none, or the same one again where unlike ones must be, at it");
        c.fault("most a 1;", 3, 5);
        c.fault(A + "most b 1;", 3, 16);
        c.fault(A + "most aa 1;", 3, 16);
        c.fault("bar a b;", 3, 4);
        c.fault(A + "bar b a;", 3, 15);
        c.fault(A + "bar a b;", 3, 17);
        c.fault("cost 1 when is a;", 3, 15);
        c.fault(A + "cost 1 when all and not is b;", 3, 38);
        c.fault(A + "bar a a;", 3, 17);
        c.fault(TWO + "bar b b;", 3, 28);
        c.fault(TWO + "bar b a;", 0, 3);
    }

    private static void open(Sentences s) {
        Checks c = s.of("Terms I", "4 the 7th ( [ not that is open at once");
        c.fault("cost ((((((1)))))) when all;", 0, 1);
        c.fault("cost (((((((1))))))) when all;", 4, 11);
        c.fault("cost 1 when [[[[[[all]]]]]];", 0, 1);
        c.fault("cost 1 when [[[[[[[all]]]]]]];", 4, 18);
        c.fault("cost 1 when not not not not not not all;", 0, 1);
        c.fault("cost 1 when not not not not not not not all;", 4, 36);
        c.fault("cost 1 when not [not [not [1 < 2]]];", 0, 1);
        c.fault("cost 1 when not [not [not [(1) < 2]]];", 4, 27);
        c.fault("cost 1 when not [not [not [not all]]];", 4, 27);
        c.fault("cost 1 when not [not [not [[all]]]];", 4, 27);
        c.fault("cost (((((min(1,2)))))) when all;", 0, 1);
        c.fault("cost ((((((min(1,2))))))) when all;", 4, 14);
        c.fault("cost min(1,max(1,(((((2)))))) when all;", 4, 21);
        // one that was closed is open no more
        c.fault("cost ((((((1))))))+((((((1)))))) when [[[[[[all]]]]]] and ((((((1))))))<1;", 0, 1);
        c.fault("cost min(((((1)))),((((1)))))+(1) when all;cost ((((((1)))))) when all;", 0, 2);
        c.fault("cost ((((((1)+((1))))))) when all;", 4, 15);
        // nor is one of a text ahead
        TieStreet x = new TieStreet();
        for (String ahead : new String[] {"cost ((((((1 x", "cost 1 when [[[[[[x", "cost 1 when not not not not not not x"}) {
            c.due("land() of '" + ahead + "'", Checks.land(x, ahead), -1);
            c.due("fault(0)", x.fault(0), 1);
            c.due("land() behind it", Checks.land(x, "cost ((((((1)))))) when all;"), 1);
        }
    }

    private static void notOpen(Sentences s) {
        Checks c = s.of("Terms I", "(not until its FACT ends)");
        c.fault("cost 1 when not not not not not not all and not not not not not not all;", 0, 1);
        c.fault("cost 1 when not all or not all or not all or not all or not all or not all or not all;", 0, 1);
        c.fault("cost 1 when not 1 < (((((1)))));", 0, 1);
        c.fault("cost 1 when not 1 < ((((((1))))));", 4, 25);
        c.fault("cost 1 when not ((((((1)))))) < 1;", 4, 21);
        c.fault("cost 1 when not all and 1 < ((((((1))))));", 0, 1);
        c.fault("cost 1 when [[[[[not all and [all]]]]]];", 0, 1);
        c.fault("cost 1 when [[[[[not [all]]]]]];", 4, 21);
    }

    private static void tooMany(Sentences s) {
        Checks c = s.of("Terms I", "5 one too many of a kind of STATEMENT, at its first byte");
        String ten = TextSentences.people(10);
        c.fault(ten + "who k at 0;", 5, 110);
        c.fault(ten + "\n who k at 0;", 5, 112);
        c.fault(ten + "who", 5, 110);
        c.fault(ten + "whom", 1, 110);
        c.fault(ten + "bar a b;most a 1;cost 1 when all;news 1 when all;", 0, 14);
        String twenty = "cost 1 when all;news 1 when all;".repeat(10);
        c.fault(twenty + " cost 1 when all;", 5, 321);
        c.fault(twenty + " news", 5, 321);
        c.fault(twenty + TWO + "bar a b;", 0, 23);
        c.fault(TWO + "bar a b;".repeat(20) + " bar", 5, 183);
        c.fault(TWO + "bar a b;".repeat(20) + "most a 1;".repeat(60), 0, 82);
        // STATEMENTS of a text ahead do not count, whether it had a FAULT or not
        TieStreet x = new TieStreet();
        for (String text : new String[] {ten, twenty, TWO + "bar a b;".repeat(20)}) {
            c.due("land()", Checks.land(x, text) > 0, true);
            c.due("land() with a FAULT at the end", Checks.land(x, text + "x"), -1);
            c.due("fault(0)", x.fault(0), 1);
            c.due("land() once more", Checks.land(x, text) > 0, true);
        }
    }
}
