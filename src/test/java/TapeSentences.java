/** Sentences of promises 1 to 7: a new object, feed, end, land, fault, has, letter. */
final class TapeSentences {
    private static final int BLANKS = 0x20202020;
    private static final long NO_WORTH = -1000000000000L;
    private static final String TWO = "who a at 1; who b at 2; news 5 when all;";

    static void ask(Sentences s) {
        newObject(s);
        feeding(s);
        ending(s);
        landing(s);
        faults(s);
        having(s);
        letters(s);
    }

    private static void blanks(TieStreet x, int feeds) {
        for (int i = 0; i < feeds; i++) {
            x.feed(BLANKS, BLANKS, BLANKS, BLANKS, BLANKS);
        }
    }

    private static void newObject(Sentences s) {
        Checks c = s.of("What it is", "An object is used for at most 512 calls after it has been made");
        TieStreet x = new TieStreet();
        Checks.feed(x, 0, Checks.bytesOf(TWO));
        x.land();
        for (int call = 5; call < 512; call++) {
            c.due("call " + call, x.net(call & 1), true);
        }
        c.due("the 512th call", x.worth(0), 5);

        c = s.of(1, "No PERSONS");
        x = new TieStreet();
        c.due("has(0)", x.has(0), 0);
        c.due("has(1)", x.has(1), 0);
        c.due("letter(0, 0)", x.letter(0, 0), -1);
        c.due("worth(0)", x.worth(0), NO_WORTH);
        c.due("worth(-1), of nobody", x.worth(-1), 0);
        c.due("ways(0, 0)", x.ways(0, 0), -1);

        c = s.of(1, "THE NET has no TIES.");
        c.due("net()", x.net(), 0);
        c.due("has(5)", x.has(5), 0);
        c.due("net(1)", x.net(1), false);
        c.due("net(0)", x.net(0), true);
    }

    private static void feeding(Sentences s) {
        Checks c = s.of(2, "Twenty bytes come behind those on the tape");
        TieStreet x = new TieStreet();
        c.due("on an empty tape", x.feed(0, 0, 0, 0, 0), 20);
        x.end(3);
        c.due("behind three", x.feed(0x78787878, 0, 0, 0, 0), 23);
        x.end(0);
        c.due("on a tape cut to nothing", x.feed(BLANKS, BLANKS, BLANKS, BLANKS, BLANKS), 20);
        x.end(2);
        x.feed(BLANKS, 0x3b3b3b3b, 0, 0, 0);
        c.due("land()", x.land(), -1);
        c.due("what comes is behind what was kept, not behind what was cut", x.fault(1), 6);

        c = s.of(2, "of each number the highest first");
        x = new TieStreet();
        x.feed(0x77686f20, 0x61206174, 0x20373b20, BLANKS, BLANKS);
        c.due("land() of 'who a at 7;'", x.land(), 1);
        for (int k = 0; k < 20; k++) {
            int[] numbers = {BLANKS, BLANKS, BLANKS, BLANKS, BLANKS};
            numbers[k / 4] += (0xff - 0x20) << 24 - 8 * (k % 4);
            x.feed(numbers[0], numbers[1], numbers[2], numbers[3], numbers[4]);
            x.land();
            c.due("byte 255 in place " + k, x.fault(1), k);
        }

        c = s.of(2, "how many there are");
        x = new TieStreet();
        for (int i = 1; i <= 40; i++) {
            c.due("feed " + i, x.feed(BLANKS, BLANKS, BLANKS, BLANKS, BLANKS), 20 * i);
        }

        c = s.of(2, "NONE, doing nothing, if there would be more than 800.");
        c.due("behind 800", x.feed(0, 0, 0, 0, 0), -1);
        c.due("there are 800 still", x.end(800), true);
        x.end(781);
        c.due("behind 781", x.feed(0, 0, 0, 0, 0), -1);
        c.due("there are 781 still", x.end(782), false);
        c.due("and no fewer", x.end(781), true);
        c.due("they are blanks", x.land(), 0);
        blanks(x, 40);
        x.end(780);
        c.due("behind 780", x.feed(BLANKS, BLANKS, BLANKS, BLANKS, 0x20202078), 800);
        x.land();
        c.due("the last byte of all", x.fault(1), 799);
    }

    private static void ending(Sentences s) {
        Checks c = s.of(3, "The tape has its first n bytes alone: true");
        TieStreet x = new TieStreet();
        c.due("end(0) of an empty tape", x.end(0), true);
        x.feed(0x77686f20, 0x61206174, 0x20373b78, 0x78787878, 0x78787878);
        c.due("end(20) of twenty", x.end(20), true);
        c.due("end(11)", x.end(11), true);
        c.due("the others are gone", x.end(12), false);
        c.due("land()", x.land(), 1);
        x.feed(0x78787878, 0, 0, 0, 0);
        c.due("end(0)", x.end(0), true);
        c.due("no bytes are left", x.end(1), false);
        c.due("land() of nothing", x.land(), 0);

        c = s.of(3, "false, doing nothing, if it has not so many, or n is below 0.");
        x = new TieStreet();
        c.due("end(1) of an empty tape", x.end(1), false);
        x.feed(0x77686f20, 0x61206174, 0x20373b20, BLANKS, 0x20202078);
        c.due("end(21)", x.end(21), false);
        c.due("end(-1)", x.end(-1), false);
        c.due("end(MAX)", x.end(Integer.MAX_VALUE), false);
        c.due("end(MIN)", x.end(Integer.MIN_VALUE), false);
        c.due("land()", x.land(), -1);
        c.due("all twenty are there still", x.fault(1), 19);
        x = new TieStreet();
        blanks(x, 40);
        c.due("end(801) of a full tape", x.end(801), false);
        c.due("end(800) of a full tape", x.end(800), true);
    }

    private static void landing(Sentences s) {
        Checks c = s.of(4, "The tape (it goes) is a LAND");
        TieStreet x = new TieStreet();
        c.due("an empty tape", x.land(), 0);
        c.due("fault(0)", x.fault(0), 0);
        c.due("land()", Checks.land(x, TWO), 3);
        c.due("the tape went", x.end(1), false);
        c.due("land() with a FAULT", Checks.land(x, "who a at 1; x"), -1);
        c.due("the tape went with a FAULT, too", x.end(1), false);
        c.due("feed", x.feed(BLANKS, BLANKS, BLANKS, BLANKS, BLANKS), 20);

        c = s.of(4, "how many STATEMENTS");
        c.due("none, of an empty text", Checks.land(x, ""), 0);
        c.due("none, of blanks", Checks.land(x, " ".repeat(800)), 0);
        c.due("one", Checks.land(x, "who a at 1;"), 1);
        c.due("as many as there is room for", Checks.land(x, "who a at 1;" + "most a 1;".repeat(87)), 88);

        c = s.of(4, "NONE with a FAULT (all stays).");
        x = told(c);
        long[] ahead = allTold(x);
        c.due("land() with a FAULT at the end", Checks.land(x, "who c at 1; news 9 when all; bar c c;"), -1);
        same(c, "after it", allTold(x), ahead);
        c.due("land() with a FAULT at once", Checks.land(x, ";"), -1);
        same(c, "after that", allTold(x), ahead);
        c.due("step(-1) by the same costs and news", x.extra(0) && x.net(0) && x.step(-1) == 0, true);

        c = s.of(4, "Without one THE NET has no TIES, EXTRA is 0, and nothing is kept of what was told ahead "
                + "(but fault(), octet()).");
        for (String text : new String[] {TWO, "", "who a at 1; who b at 2;"}) {
            x = told(c);
            Checks.land(x, text);
            c.due("net()", x.net(), 0);
            c.due("has(4)", x.has(4), 0);
            c.due("has(5)", x.has(5), 0);
            same(c, "bars(), ring(), one(), comes(), lied()", latest(x),
                    new long[] {-1, -1, -1, -1, -1, -1, -1, -1, NO_WORTH});
            c.due("octet(0) is kept", x.octet(0), 2);
            c.due("octet(9) is kept", x.octet(9), 2 ^ 1 ^ 1007 / 256 ^ 1007 % 256);
            c.due("fault(0) tells of this one", x.fault(0), 0);
        }
        x = told(c);
        Checks.land(x, "who a at 1; who b at 2;");
        x.net(1);
        c.due("no cost and no news are kept", x.worth(-1), 0);
        Checks.land(x, "who a at 1; who b at 2; bar a b; most a 0;");
        Checks.land(x, "who a at 1; who b at 2;");
        c.due("no bar and no MOST is kept", x.net(1), true);
        Checks.land(x, "");
        c.due("no PERSON is kept", x.has(0), 0);
        c.due("no PAIR is kept", x.has(1), 0);
        c.due("and none can be tied", x.net(1), false);
        String full = "who a at 1;who b at 2;news 1" + "+1".repeat(300) + " when all;";
        for (int i = 0; i < 12; i++) {
            c.due("a long text, time " + i, Checks.land(x, full), 3);
            x.net(1);
            c.due("its news", x.worth(0), 301);
        }
    }

    /** An object of which everything was asked that is told of later. */
    private static TieStreet told(Checks c) {
        TieStreet x = c.street(TWO);
        x.extra(7);
        x.net(1);
        x.image();
        c.due("rest(0)", x.rest(0), 0);
        x.go();
        x.all(0, false);
        x.coming();
        x.lie(0);
        x.net(1);
        return x;
    }

    private static long[] latest(TieStreet x) {
        return new long[] {x.bars(0), x.bars(1), x.bars(2), x.ring(0), x.ring(1), x.one(0), x.comes(0, false),
            x.comes(0, true), x.lied()};
    }

    private static long[] allTold(TieStreet x) {
        return new long[] {x.net(), x.has(0), x.has(1), x.has(2), x.has(3), x.has(4), x.has(5), x.letter(0, 0),
            x.letter(1, 0), x.worth(0), x.worth(1), x.bars(0), x.bars(1), x.bars(2), x.ring(0), x.ring(1), x.one(0),
            x.comes(0, false), x.comes(0, true), x.lied(), x.octet(0), x.octet(9)};
    }

    private static void same(Checks c, String what, long[] got, long[] want) {
        for (int i = 0; i < want.length; i++) {
            c.due(what + ", " + i, got[i], want[i]);
        }
    }

    private static void faults(Sentences s) {
        Checks c = s.of(5, "its FAULT (0; 0 without, and ahead of any)");
        TieStreet x = new TieStreet();
        c.due("ahead of any", x.fault(0), 0);
        Checks.land(x, "who a at 1000;");
        c.due("with FAULT 2", x.fault(0), 2);
        Checks.land(x, "who a at 1;");
        c.due("without", x.fault(0), 0);

        c = s.of(5, "its place (1; NONE without).");
        x = new TieStreet();
        c.due("ahead of any", x.fault(1), -1);
        Checks.land(x, "x");
        c.due("the first byte", x.fault(1), 0);
        Checks.land(x, " ".repeat(799) + "x");
        c.due("the last byte", x.fault(1), 799);
        Checks.land(x, " ".repeat(797) + "who");
        c.due("behind the last byte", x.fault(1), 800);
        Checks.land(x, "");
        c.due("without", x.fault(1), -1);

        c = s.of(5, "Of the latest land()");
        Checks.land(x, " x");
        x.on();
        x.end(0);
        c.due("other calls leave it", x.fault(0) * 10 + x.fault(1), 11);
        Checks.land(x, "who a at 1; bar a a;");
        c.due("the latest of two", x.fault(0) * 100 + x.fault(1), 318);

        c = s.of(5, "NONE for another what.");
        for (int what : new int[] {-1, 2, Integer.MIN_VALUE, Integer.MAX_VALUE}) {
            c.due("fault(" + what + ")", x.fault(what), -1);
        }
    }

    private static void having(Sentences s) {
        Checks c = s.of(6, "0 PERSONS, 1 PAIRS, 2 costs, 3 news, 4 EXTRA, 5 TIES of THE NET.");
        StringBuilder text = new StringBuilder();
        for (int n = 0; n <= 10; n++) {
            TieStreet x = c.street(text.toString());
            c.due("PERSONS of " + n, x.has(0), n);
            c.due("PAIRS of " + n, x.has(1), n * (n - 1) / 2);
            x.net(x.shape(1, 0));
            c.due("TIES of all " + n, x.has(5), n * (n - 1) / 2);
            text.append("who ").append((char) ('a' + n)).append(" at 0;");
        }
        TieStreet x = c.street("cost 1 when all;".repeat(20));
        c.due("twenty costs", x.has(2), 20);
        c.due("and no news", x.has(3), 0);
        x = c.street("news 1 when all;".repeat(20));
        c.due("twenty news", x.has(3), 20);
        c.due("and no costs", x.has(2), 0);
        c.due("EXTRA at first", x.has(4), 0);
        x.extra(-1000);
        c.due("the least EXTRA", x.has(4), -1000);
        x.extra(1000);
        c.due("the greatest EXTRA", x.has(4), 1000);

        c = s.of(6, "NONE for others.");
        for (int what : new int[] {-1, 6, Integer.MIN_VALUE, Integer.MAX_VALUE}) {
            c.due("has(" + what + ")", x.has(what), -1);
        }
    }

    private static void letters(Sentences s) {
        Checks c = s.of(7, "Letter k (0 .. 5) of a PERSON's NAME: 1 .. 26");
        TieStreet x = c.street("who a at 0; who z at 0; who azbyca at 0; who zzzzzz at 0; who aaaaa at 0;");
        c.due("the first of all letters", x.letter(0, 0), 1);
        c.due("the last of all letters", x.letter(1, 0), 26);
        int[] want = {1, 26, 2, 25, 3, 1};
        for (int k = 0; k < 6; k++) {
            c.due("letter(2, " + k + ")", x.letter(2, k), want[k]);
            c.due("letter(3, " + k + ")", x.letter(3, k), 26);
        }

        c = s.of(7, "0 behind it");
        for (int k = 1; k < 6; k++) {
            c.due("letter(0, " + k + ")", x.letter(0, k), 0);
        }
        c.due("the last of five", x.letter(4, 4), 1);
        c.due("behind five", x.letter(4, 5), 0);

        c = s.of(7, "NONE when there is none such.");
        c.due("letter(2, 6)", x.letter(2, 6), -1);
        c.due("letter(0, -1)", x.letter(0, -1), -1);
        c.due("letter(0, MAX)", x.letter(0, Integer.MAX_VALUE), -1);
        c.due("letter(0, MIN)", x.letter(0, Integer.MIN_VALUE), -1);
        c.due("letter(5, 0)", x.letter(5, 0), -1);
        c.due("letter(-1, 0)", x.letter(-1, 0), -1);
        c.due("letter(MAX, 0)", x.letter(Integer.MAX_VALUE, 0), -1);
        c.due("letter(MIN, 0)", x.letter(Integer.MIN_VALUE, 0), -1);
        Checks.land(x, "who b at 0;");
        c.due("one that was there ahead", x.letter(1, 0), -1);
    }
}
