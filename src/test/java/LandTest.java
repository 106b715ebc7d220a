/** Promises 4 to 7: land, fault, has, letter; the text itself. */
public final class LandTest {
    public static void main(String[] args) {
        Checks c = new Checks();
        goodTexts(c);
        byteFaults(c);
        blanksBetween(c);
        numberFaults(c);
        nameFaults(c);
        openFaults(c);
        countFaults(c);
        firstAlong(c);
        whatStays(c);
        hasAndLetters(c);
        c.finish();
    }

    private static void goodTexts(Checks c) {
        c.fault("", 0, 0);
        c.fault("  \n ", 0, 0);
        c.fault("who a at 0;", 0, 1);
        c.fault("who a at 999;", 0, 1);
        c.fault("who a at 0007;", 0, 1);
        c.fault("who\na\nat\n1;who b at 2;", 0, 2);
        c.fault("who abcdef at 1;", 0, 1);
        c.fault("cost 0 when all;", 0, 1);
        c.fault("cost 9999 when all;", 0, 1);
        c.fault("news(1)when[all];", 0, 1);
        c.fault("news min(1,2)+max(ways,miles)*mine/theirs-ties when 1<2 and 2>1 or not 1=2;", 0, 1);
        c.fault("who a at 1; most a 0; most a 9;", 0, 3);
        c.fault("who a at 1; who b at 1; bar a b; bar b a;", 0, 4);
        c.fault("cost 1 when not not not not not not all;", 0, 1);
        c.fault("cost ((((((1)))))) when all;", 0, 1);
        c.fault("cost 1 when [[[[[[all]]]]]];", 0, 1);
        c.fault("cost 1 when not not not not not not all and not all;", 0, 1);
        c.fault("cost (1)+((2))*(((3))) when all;", 0, 1);
        c.fault("cost 1" + "+1".repeat(392) + " when all;", 0, 1);
        c.fault("cost 1 when 1<1" + " or 1<1".repeat(111) + "      ;", 0, 1);
        c.fault(" ".repeat(789) + "who a at 1;", 0, 1);
    }

    private static void byteFaults(Checks c) {
        c.fault("x;", 1, 0);
        c.fault(" ;", 1, 1);
        c.fault("wh", 1, 0);
        c.fault("whom a at 1;", 1, 0);
        c.fault("WHO a at 1;", 1, 0);
        c.fault("who A at 1;", 1, 4);
        c.fault("\twho a at 1;", 1, 0);
        c.fault("who a at 1;\r", 1, 11);
        c.fault("who a at 1;\0", 1, 11);
        c.fault("who a at 1; " + (char) 233, 1, 12);
        c.fault("12345", 1, 0);
        c.fault("who", 1, 3);
        c.fault("who  ", 1, 5);
        c.fault("who a", 1, 5);
        c.fault("who a at", 1, 8);
        c.fault("who a at 1", 1, 10);
        c.fault("who a at 1 \n", 1, 12);
        c.fault("who 1 at 1;", 1, 4);
        c.fault("who 12345 at 1;", 1, 4);
        c.fault("who a is 1;", 1, 6);
        c.fault("who a atat 1;", 1, 6);
        c.fault("who a at b;", 1, 9);
        c.fault("who a at -1;", 1, 9);
        c.fault("who a at 1,", 1, 10);
        c.fault("who theirs at 1;", 1, 4);
        c.fault("who theirsx at 1;", 1, 10);
        c.fault("who abcdefghijk at 1;", 1, 10);
        c.fault("who a at 10000;", 1, 13);
        c.fault("who a at 00000;", 1, 13);
        c.fault("cost 12345 when all;", 1, 9);
        c.fault("cost 1 when 12345 > 1;", 1, 16);
        c.fault("cost abcdefgh when all;", 1, 5);
        c.fault("cost all when all;", 1, 5);
        c.fault("cost when all;", 1, 5);
        c.fault("cost 1 + when all;", 1, 9);
        c.fault("cost -1 when all;", 1, 5);
        c.fault("cost [1] when all;", 1, 5);
        c.fault("cost (1 when all;", 1, 8);
        c.fault("cost min 1 when all;", 1, 9);
        c.fault("cost min(1) when all;", 1, 10);
        c.fault("cost min(1,2,3) when all;", 1, 12);
        c.fault("cost 1 when 1;", 1, 13);
        c.fault("cost 1 when 1 < ;", 1, 16);
        c.fault("cost 1 when 1 < 2 < 3;", 1, 18);
        c.fault("cost 1 when (1 < 2);", 1, 15);
        c.fault("cost 1 when [all;", 1, 16);
        c.fault("cost 1 when all and;", 1, 19);
        c.fault("cost 1 when all all;", 1, 16);
        c.fault("cost 1 when or;", 1, 12);
        c.fault("cost 1 when not;", 1, 15);
        c.fault("who a at 1; bar a;", 1, 17);
        c.fault("who a at 1; bar a 1;", 1, 18);
        c.fault("who a at 1; most a;", 1, 18);
        c.fault("who a at 1; most a ways;", 1, 19);
        c.fault("who a at 1; cost 1 when is abcdefg;", 1, 33);
        c.fault("who a at 1; cost 1 when is not;", 1, 27);
        c.fault("who a at 1;;", 1, 11);
        c.fault("at a at 1;", 1, 0);
        c.fault(";".repeat(800), 1, 0);
        c.fault("a1".repeat(400), 1, 0);
        c.fault("who " + "a".repeat(796), 1, 10);
        c.fault("who a at " + "1".repeat(791), 1, 13);
    }

    private static void blanksBetween(Checks c) {
        c.fault("who a at1;", 1, 8);
        c.fault("who a at10000;", 1, 8);
        c.fault("who a1 at 1;", 1, 5);
        c.fault("cost5 when all;", 1, 4);
        c.fault("cost 5when all;", 1, 6);
        c.fault("cost 5 when not5<6;", 1, 15);
        c.fault("cost 5 when 5<6and all;", 1, 15);
        c.fault("who a at 1; most a1;", 1, 18);
        c.fault("most a1;", 3, 5);
        c.fault("whoa at 1;", 1, 0);
    }

    private static void numberFaults(Checks c) {
        c.fault("who a at 1000;", 2, 9);
        c.fault("who a at 9999;", 2, 9);
        c.fault("who a at 1000x", 2, 9);
        c.fault("who a at 1; most a 10;", 2, 19);
        c.fault("who a at 1; most a 9999;", 2, 19);
        c.fault("who a at 1; most a 10000;", 1, 23);
    }

    private static void nameFaults(Checks c) {
        c.fault("who a at 1; who a at 2;", 3, 16);
        c.fault("who a at 1; who a", 3, 16);
        c.fault("cost 5 when is a;", 3, 15);
        c.fault("cost 5 when is a; who a at 1;", 3, 15);
        c.fault("who a at 1; cost 5 when is aa;", 3, 27);
        c.fault("bar a b;", 3, 4);
        c.fault("who a at 1; bar a b;", 3, 18);
        c.fault("who a at 1; bar a a;", 3, 18);
        c.fault("who a at 1; bar b a;", 3, 16);
        c.fault("most a 1;", 3, 5);
    }

    private static void openFaults(Checks c) {
        c.fault("cost (((((((1", 4, 11);
        c.fault("cost 1 when not not not not not not not all;", 4, 36);
        c.fault("cost 1 when [[[[[[[all]]]]]]];", 4, 18);
        c.fault("cost ((((((min(1,2))))))) when all;", 4, 14);
        c.fault("cost min(((((((1))))))),2) when all;", 4, 14);
        c.fault("cost min((((((1)))))),2) when all;", 1, 20);
        c.fault("cost min(((((1))))),(((((2)))))) when all;", 1, 18);
        c.fault("cost min(((((1)))),(((((2)))))) when all;", 0, 1);
        c.fault("cost 1 when not [ not [ ( ( 1 ) ) < ( ( 1 ) ) ] ];", 0, 1);
        c.fault("cost 1 when not [ not [ ( ( 1 ) ) < ( ( ( 1 ) ) ) ] ];", 4, 40);
        c.fault("cost 1 when not [ not [ not not all and not not not all ] ];", 4, 48);
        c.fault("cost 1 when not 1 < (((((1))))) and all;", 0, 1);
        c.fault("cost 1 when not 1 < ((((((1)))))) and all;", 4, 25);
        c.fault("cost 1 when not all and 1 < ((((((1))))));", 0, 1);
    }

    private static void countFaults(Checks c) {
        StringBuilder people = new StringBuilder();
        for (int i = 0; i < 10; i++) {
            people.append("who ").append((char) ('a' + i)).append(" at ").append(i).append(";");
        }
        c.fault(people.toString(), 0, 10);
        c.fault(people + "who k at 1;", 5, people.length());
        c.fault(people + " who a at 1;", 5, people.length() + 1);
        c.fault(people + "who", 5, people.length());
        c.fault(people + "whom", 1, people.length());

        String costs = "cost 1 when all;".repeat(12);
        String news = "news 1 when all;".repeat(8);
        c.fault(costs + news, 0, 20);
        c.fault(costs + news + "cost 1 when all;", 5, 320);
        c.fault(costs + news + "news x", 5, 320);

        String two = "who a at 1;who b at 2;";
        String bars = "bar a b;".repeat(20);
        c.fault(two + bars, 0, 22);
        c.fault(two + bars + "bar a a;", 5, two.length() + bars.length());
        c.fault(two + "most a 1;".repeat(40), 0, 42);
    }

    private static void firstAlong(Checks c) {
        c.fault("who a at 1000; who a at 1;", 2, 9);
        c.fault("bar a b x", 3, 4);
        c.fault("who a at 1; bar a a x", 3, 18);
        c.fault("who a at 1 who a at 1;", 1, 11);
    }

    private static void whatStays(Checks c) {
        TieStreet x = c.street("who a at 1; who b at 2; news 5 when all;");
        x.net(1);
        x.extra(7);
        x.image();
        x.rest(0);
        x.rest(4);
        x.go();
        x.all(0, false);
        x.coming();
        x.lie(0);
        long[] ahead = told(x);
        c.due("land() with a fault", Checks.land(x, "who a at 1; x"), -1);
        c.due("fault(0)", x.fault(0), 1);
        c.due("fault(1)", x.fault(1), 12);
        c.due("fault(2)", x.fault(2), -1);
        c.due("fault(-1)", x.fault(-1), -1);
        long[] then = told(x);
        for (int i = 0; i < ahead.length; i++) {
            c.due("what stays, " + i, then[i], ahead[i]);
        }
        c.due("land()", Checks.land(x, "who a at 1; who b at 2; news 5 when all;"), 3);
        long[] fresh = {0, 0, -1, -1, -1, -1, -1, -1, -1, -1, -1000000000000L};
        then = told(x);
        for (int i = 0; i < fresh.length; i++) {
            c.due("what goes, " + i, then[i], fresh[i]);
        }
        c.due("octet(0) stays", x.octet(0), 2);
        c.due("octet(6) stays", x.octet(6), 1);
        c.due("fault(0) without", x.fault(0), 0);
        c.due("fault(1) without", x.fault(1), -1);
        c.due("an empty land()", Checks.land(x, ""), 0);
        c.due("has(0)", x.has(0), 0);
        c.due("has(3)", x.has(3), 0);
    }

    private static long[] told(TieStreet x) {
        return new long[] {x.net(), x.has(4), x.bars(0), x.bars(1), x.bars(2), x.ring(0), x.ring(1),
            x.one(0), x.comes(0, false), x.comes(0, true), x.lied()};
    }

    private static void hasAndLetters(Checks c) {
        TieStreet x = c.street("who abczyx at 3; who q at 5; who hh at 5; cost 1 when all; cost 2 when all;"
                + "news 1 when all; bar q hh; most q 2;");
        x.net(3);
        x.extra(-3);
        long[] want = {3, 3, 2, 1, -3, 2};
        for (int what = 0; what < want.length; what++) {
            c.due("has(" + what + ")", x.has(what), want[what]);
        }
        c.due("has(6)", x.has(6), -1);
        c.due("has(-1)", x.has(-1), -1);
        int[] letters = {1, 2, 3, 26, 25, 24};
        for (int k = 0; k < 6; k++) {
            c.due("letter(0, " + k + ")", x.letter(0, k), letters[k]);
            c.due("letter(1, " + k + ")", x.letter(1, k), k == 0 ? 17 : 0);
            c.due("letter(2, " + k + ")", x.letter(2, k), k <= 1 ? 8 : 0);
        }
        c.due("letter(0, 6)", x.letter(0, 6), -1);
        c.due("letter(0, -1)", x.letter(0, -1), -1);
        c.due("letter(3, 0)", x.letter(3, 0), -1);
        c.due("letter(-1, 0)", x.letter(-1, 0), -1);
    }
}
