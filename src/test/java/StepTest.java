/** Promises 16 to 18: step, go, ring. */
public final class StepTest {
    private static final String FIVE = "who a at 9;who b at 7;who c at 16;who d at 2;who e at 19;";
    /** From no TIES at all it takes more than 200 STEPS. */
    private static final String LONG = "who a at 29;who b at 16;who c at 8;who d at 26;who e at 5;who f at 18;"
            + "who g at 22;who h at 23;who i at 27;who j at 4;news ties when 7<3-12;"
            + "news 12 when ties-ties/2*2=1 and is c;cost ties when is b;cost ways/theirs when 6>3*1+theirs;"
            + "news 16-ties when all;cost ties-ties when ties-ties/2*2=1 and is b;"
            + "cost ways when ties-ties/2*2=1 and is a;";

    public static void main(String[] args) {
        Checks c = new Checks();
        inOrder(c);
        drawn(c);
        going(c);
        rings(c);
        longWays(c);
        c.finish();
    }

    private static void inOrder(Checks c) {
        TieStreet x = c.street("who a at 0; who b at 10; who c at 20; cost 5 when all; news 12 / ways when all;");
        for (int pair = 0; pair < 3; pair++) {
            c.due("step(-1)", x.step(-1), pair);
        }
        c.due("step(-1) at rest", x.step(-1), -1);
        c.due("net()", x.net(), 7);
        c.due("step(-2)", x.step(-2), -2);
        c.due("step(MIN)", x.step(Integer.MIN_VALUE), -2);

        // by pairs alone: an ADD of pair 0 is ahead of a CUT of pair 1
        x = c.street("who a at 0; who b at 0; who c at 0; news 2 when ways = 1 and is b; cost 1 when is c; most b 1;");
        x.net(2);
        c.due("the ADD", x.step(-1), 0);
        c.due("net()", x.net(), 3);
        c.due("then the CUT, of the greater person", x.step(-1), 1);
        c.due("net()", x.net(), 1);
        c.due("and no more", x.step(-1), -1);
    }

    private static void drawn(Checks c) {
        String text = "who a at 0; who b at 0; who c at 0; who d at 0; news 3 when ways = 1; bar a b;";
        int[] seeds = {0, 1, 2, 77, 123456789, 2147483647};
        for (int seed : seeds) {
            // five pairs may be: 1 to 5
            long x = (1103515245L * seed + 12345) & 0x7fffffffL;
            TieStreet s = c.street(text);
            int want = 1 + (int) ((x >> 8) % 5);
            c.due("step(" + seed + ")", s.step(seed), want);
            c.due("net()", s.net(), 1L << want);
        }
        TieStreet only = c.street("who a at 0; who b at 0; news 1 when all;");
        c.due("of one pair", only.step(5), 0);
        c.due("of none", only.step(5), -1);
        only.extra(2);
        c.due("a CUT", only.step(5), 0);
        TieStreet s = c.street(text);
        // seed 0: x = 12345, floor(12345 / 256) = 48, 48 mod 5 = 3, mod 4 = 0, mod 3 = 0, mod 2 = 0
        c.due("step(0)", s.step(0), 4);
        c.due("step(0)", s.step(0), 1);
        c.due("step(0)", s.step(0), 2);
        c.due("step(0)", s.step(0), 3);
        c.due("step(0)", s.step(0), 5);
        c.due("step(0)", s.step(0), -1);
        c.due("ring(0) is of go() alone", s.ring(0), -1);
    }

    private static void going(Checks c) {
        TieStreet x = c.street("who a at 0; who b at 0; who c at 0; news 3 when ways = 1;");
        c.due("ring(0) ahead of any", x.ring(0), -1);
        c.due("go()", x.go(), 3);
        c.due("net()", x.net(), 7);
        c.due("ring(0)", x.ring(0), 0);
        c.due("ring(1)", x.ring(1), -1);
        c.due("go() at rest", x.go(), 0);
        x.extra(4);
        c.due("go() back", x.go(), 3);
        c.due("net()", x.net(), 0);
    }

    private static void rings(Checks c) {
        TieStreet x = c.street(FIVE + "cost 8*mine when all;news 15 when all;");
        c.due("go()", x.go(), 6);
        c.due("ring(0)", x.ring(0), 4);
        c.due("ring(1)", x.ring(1), 32);
        long[] round = new long[5];
        round[0] = x.net();
        for (int i = 1; i <= 4; i++) {
            c.due("a step of the ring", x.step(-1) >= 0, true);
            round[i] = x.net();
        }
        c.due("the ring is closed", round[4], round[0]);
        long least = Math.min(Math.min(round[0], round[1]), Math.min(round[2], round[3]));
        c.due("the least of it", least, 32);
        c.due("go() round it", x.go(), 4);
        c.due("ring(0)", x.ring(0), 4);
        c.due("ring(2)", x.ring(2), -1);
        c.due("ring(-1)", x.ring(-1), -1);
        x.lie(0);
        c.due("lie() does not touch it", x.ring(0), 4);
        x.extra(1000);
        x.go();
        c.due("the latest go() counts", x.ring(0), 0);
        c.due("ring(1)", x.ring(1), -1);
    }

    private static void longWays(Checks c) {
        TieStreet x = c.street(LONG);
        c.due("go() is not enough", x.go(), -1);
        c.due("ring(0)", x.ring(0), 0);
        c.due("ring(1)", x.ring(1), -1);
        TieStreet y = c.street(LONG);
        for (int i = 0; i < 200; i++) {
            c.due("a step of 200", y.step(-1) >= 0, true);
        }
        c.due("200 steps are done all the same", x.net(), y.net());
        int rest = x.go();
        c.due("go() on", rest > 0, true);
        c.due("it ends at rest", x.ring(0), 0);

        // so many steps ahead that 200 are just enough
        TieStreet z = c.street(LONG);
        for (int i = 0; i < rest; i++) {
            z.step(-1);
        }
        long from = z.net();
        c.due("200 are enough", z.go(), 200);
        c.due("net()", z.net(), x.net());
        c.due("ring(0)", z.ring(0), 0);
        z = c.street(LONG);
        for (int i = 0; i < rest - 1; i++) {
            z.step(-1);
        }
        c.due("200 are one too few", z.go(), -1);
        c.due("no longer there", z.net() == x.net(), false);
        c.due("a net on the way may be", z.net(from), true);
    }
}
