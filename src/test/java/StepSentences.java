import java.math.BigInteger;

/** Sentences of Terms II on STEPS and GOING, and of promises 16 to 18: step, go, ring. */
final class StepSentences {
    /** From no TIES at all 261 STEPS lead to a NET that was there 136 STEPS ago. */
    private static final String FAR_RING = TextSentences.people(10)
            + "cost ties-ties/2*2 when is b or is c;news 13-ties when all;";
    /** From no TIES at all 729 STEPS lead to REST. */
    private static final String FAR_REST = TextSentences.people(9) + "cost 11 when is b and ties-ties/2*2=1;"
            + "news 33*mine when is a and ties-ties/2*2=1;news 1/mine when all;";
    /** From no TIES at all to 1, to 5, and then round 7, 6, 4, 5: b likes long ways, the others odd numbers of TIES. */
    private static final String RING = "who a at 0;who b at 0;who c at 0;news ways when is b;"
            + "news ties-ties/2*2 when all;";

    static void ask(Sentences s) {
        steps(s);
        seeds(s);
        going(s);
        stepCalls(s);
        goCalls(s);
        ringCalls(s);
    }

    private static TieStreet people(Checks c, int n, String more) {
        return c.street(TextSentences.people(n) + more);
    }

    private static void steps(Sentences s) {
        Checks c = s.of("Terms II", "the first CUT or ADD, by PAIRS alone (of a PAIR: if it is tied, the CUT of the lesser "
                + "PERSON, else of the other one)");
        // an ADD of PAIR 0 is ahead of a CUT of PAIR 2
        TieStreet x = people(c, 3, "news 1 when is a and ways = 1;cost 1 when is c;");
        x.net(4);
        c.due("the ADD", x.step(-1), 0);
        c.due("net()", x.net(), 5);
        c.due("the CUT of the greater PERSON", x.step(-1), 2);
        c.due("net()", x.net(), 1);
        x = people(c, 3, "cost 1 when is b;");
        x.net(4);
        c.due("the CUT of the lesser PERSON", x.step(-1), 2);
        x = people(c, 3, "news 1 when ways = 1 and is c;cost 1 when is b;");
        x.net(1);
        // a CUT of PAIR 0 is ahead of an ADD of PAIR 1
        c.due("the CUT", x.step(-1), 0);
        c.due("the ADD", x.step(-1), 1);
        c.due("nothing is left", x.step(-1), -1);
        x = people(c, 3, "cost 15 when is a and mine = 1;cost 11 when is a;news 10 when is a and ways = 1;");
        x.net(3);
        c.due("a SEVERAL is no STEP", x.rest(2) == 0 && x.step(-1) == -1, true);
    }

    private static void seeds(Sentences s) {
        Checks c = s.of("Terms II", "By a seed: of all PAIRS of which there is such a CHANGE the one in place floor(x / 256) "
                + "mod how many, x having become (1103515245 x + 12345) mod 2 to the 31");
        String rules = "news 1 when ways = 1;bar a b;bar a c;";
        for (int seed : new int[] {0, 1, 2, 255, 256, 65535, 1 << 30, 2147483646, 2147483647}) {
            for (int n = 3; n <= 10; n++) {
                TieStreet x = people(c, n, rules);
                int many = n * (n - 1) / 2 - 2;
                c.due("step(" + seed + ") of " + many, x.step(seed), 2 + place(seed, many));
            }
        }
        // some of these x end with a byte of 0
        for (int seed = 0; seed < 512; seed++) {
            c.due("step(" + seed + ") of 43", people(c, 10, rules).step(seed), 2 + place(seed, 43));
        }
        // CUTS and ADDS stand in one row by PAIRS: 0 is cut, 1 is neither, 2 is made
        String both = "cost 1 when is a;news 1 when is c and ways = 1;";
        for (int seed = 0; seed < 40; seed++) {
            TieStreet x = people(c, 3, both);
            x.net(1);
            c.due("of a CUT and an ADD, step(" + seed + ")", x.step(seed), 2 * place(seed, 2));
        }

        c = s.of("Terms II", "(once for each STEP)");
        TieStreet x = people(c, 4, "news 1 when ways = 1;");
        int[] left = {0, 1, 2, 3, 4, 5};
        for (int many = 6; many > 0; many--) {
            int at = place(77, many);
            c.due("step(77) of " + many, x.step(77), left[at]);
            System.arraycopy(left, at + 1, left, at, many - 1 - at);
        }
        c.due("step(77) of none", x.step(77), -1);
    }

    /** As the document says it, with numbers that never end. */
    private static int place(int seed, int many) {
        BigInteger x = BigInteger.valueOf(1103515245).multiply(BigInteger.valueOf(seed)).add(BigInteger.valueOf(12345))
                .mod(BigInteger.TWO.pow(31));
        return x.divide(BigInteger.valueOf(256)).mod(BigInteger.valueOf(many)).intValue();
    }

    /** The object after so many STEPS in order. */
    private static TieStreet after(Checks c, String text, int steps) {
        TieStreet x = c.street(text);
        walk(c, x, steps);
        return x;
    }

    private static void walk(Checks c, TieStreet x, int steps) {
        for (int i = 0; i < steps; i++) {
            c.due("STEP " + i + " is one", x.step(-1) >= 0, true);
        }
    }

    /** Of the 729 STEPS of FAR_REST so many are left: by go() twice and then one by one, for the sake of the 512 calls. */
    private static TieStreet left(Checks c, int steps) {
        TieStreet x = c.street(FAR_REST);
        x.go();
        x.go();
        walk(c, x, 329 - steps);
        return x;
    }

    private static void going(Sentences s) {
        Checks c = s.of("Terms II", "GOING: STEP by STEP in order, 200 at most, to where there is none (REST of kind 1)");
        TieStreet x = people(c, 10, "news 1 when ways = 1;");
        c.due("45 STEPS", x.go(), 45);
        c.due("to all TIES", x.net(), (1L << 45) - 1);
        c.due("REST of kind 1", x.rest(1), 1);
        x = left(c, 200);
        c.due("200 STEPS to REST", x.go(), 200);
        c.due("it ended", x.step(-1), -1);
        x = left(c, 201);
        c.due("201 STEPS are too many", x.go(), -1);
        c.due("one is left", x.go(), 1);
        c.due("it ended", x.step(-1), -1);

        c = s.of("Terms II", "or to a NET that was there on the way (a RING: of as many STEPS as lie between)");
        x = c.street(RING);
        c.due("to where it was", x.go(), 6);
        c.due("net()", x.net(), 5);
        c.due("ring(0)", x.ring(0), 4);
        c.due("from the RING itself: the first NET counts, too", x.go(), 4);
        c.due("net()", x.net(), 5);
        c.due("ring(0)", x.ring(0), 4);
        x = after(c, FAR_RING, 61);
        c.due("200 STEPS to a RING", x.go(), 200);
        c.due("ring(0)", x.ring(0), 136);
        x = after(c, FAR_RING, 60);
        c.due("201 STEPS to a RING are too many", x.go(), -1);
        c.due("ring(0)", x.ring(0), 0);
    }

    private static void stepCalls(Sentences s) {
        Checks c = s.of(16, "A STEP (seed NONE: in order; 0 .. 2147483647: drawn): the PAIR that was changed");
        TieStreet x = people(c, 10, "news 1 when ways = 1;");
        c.due("in order: the first PAIR", x.step(-1), 0);
        c.due("the least seed", x.step(0), 1 + place(0, 44));
        x.net(0);
        c.due("the greatest seed", x.step(2147483647), place(2147483647, 45));
        x.net((1L << 44) - 1);
        c.due("the last PAIR", x.step(-1), 44);
        c.due("net()", x.net(), (1L << 45) - 1);

        c = s.of(16, "NONE when there is none");
        c.due("in order", x.step(-1), -1);
        c.due("drawn", x.step(0), -1);
        c.due("drawn", x.step(2147483647), -1);
        c.due("THE NET stays", x.net(), (1L << 45) - 1);
        c.due("of nobody", new TieStreet().step(-1), -1);
        c.due("of nobody, drawn", new TieStreet().step(5), -1);

        c = s.of(16, "-2 when the seed can't be.");
        x.net(0);
        c.due("step(-2)", x.step(-2), -2);
        c.due("step(MIN)", x.step(Integer.MIN_VALUE), -2);
        c.due("THE NET stays", x.net(), 0);
        c.due("of nobody", new TieStreet().step(-2), -2);
    }

    private static void goCalls(Sentences s) {
        Checks c = s.of(17, "GOING: how many STEPS were done");
        c.due("none, of nobody", new TieStreet().go(), 0);
        TieStreet x = people(c, 3, "news 1 when ways = 1;");
        c.due("three", x.go(), 3);
        c.due("none, at REST", x.go(), 0);
        x.net(3);
        c.due("one", x.go(), 1);
        c.due("net()", x.net(), 7);

        c = s.of(17, "NONE when 200 were not enough (they are done all the same).");
        x = c.street(FAR_REST);
        c.due("go()", x.go(), -1);
        c.due("net()", x.net(), after(c, FAR_REST, 200).net());
        c.due("go() once more", x.go(), -1);
        c.due("net()", x.net(), after(c, FAR_REST, 400).net());
        c.due("and once more", x.go(), -1);
        c.due("and to its end", x.go(), 129);
        c.due("REST", x.rest(1), 1);
        x = c.street(FAR_RING);
        c.due("go() to a far RING", x.go(), -1);
        c.due("net()", x.net(), after(c, FAR_RING, 200).net());
    }

    private static void ringCalls(Sentences s) {
        Checks c = s.of(18, "0 of how many STEPS the RING is (0: it ended at REST, or not at all)");
        TieStreet x = c.street(RING);
        x.go();
        c.due("a RING", x.ring(0), 4);
        x.extra(1000);
        x.go();
        c.due("it ended at REST", x.ring(0), 0);
        x.go();
        c.due("it was at REST", x.ring(0), 0);
        x = c.street(RING);
        x.go();
        x.extra(1000);
        x.net(0);
        c.due("no STEP right behind a RING", x.go(), 0);
        c.due("ring(0)", x.ring(0), 0);
        c.due("ring(1)", x.ring(1), -1);
        x = c.street(FAR_REST);
        x.go();
        c.due("not at all", x.ring(0), 0);

        c = s.of(18, "1 the least NET of the RING (NONE without).");
        c.due("not at all", x.ring(1), -1);
        x = c.street(RING);
        x.go();
        // of 5, 7, 6, 4, though it came by 0 and 1
        c.due("a RING", x.ring(1), 4);
        x.net(7);
        c.due("go() from 7", x.go(), 4);
        c.due("a RING from another NET of it", x.ring(1), 4);
        x.net(4);
        c.due("go() from 4", x.go(), 4);
        c.due("a RING from its least NET", x.ring(1), 4);
        x.extra(1000);
        x.go();
        c.due("it ended at REST", x.ring(1), -1);
        x = after(c, FAR_RING, 61);
        x.go();
        long least = x.net();
        for (int i = 0; i < 136; i++) {
            x.step(-1);
            least = Math.min(least, x.net());
        }
        c.due("a RING of 136", x.ring(1), least);

        c = s.of(18, "NONE without one, or for others.");
        x = c.street(RING);
        c.due("ring(0) ahead of go()", x.ring(0), -1);
        c.due("ring(1) ahead of go()", x.ring(1), -1);
        x.step(-1);
        x.lie(0);
        c.due("ring(0), other calls are none", x.ring(0), -1);
        x.go();
        for (int what : new int[] {-1, 2, Integer.MIN_VALUE, Integer.MAX_VALUE}) {
            c.due("ring(" + what + ")", x.ring(what), -1);
        }

        c = s.of(18, "Of the latest go()");
        x.lie(0);
        x.step(-1);
        x.net(0);
        c.due("ring(0) stays", x.ring(0), 4);
        c.due("ring(1) stays", x.ring(1), 4);
        x.extra(1000);
        x.go();
        c.due("the latest of two", x.ring(0), 0);
    }
}
