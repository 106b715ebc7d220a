/** Sentences of Terms III on FEW, and of promises 19 to 24: all, one, best, loss, coming, comes. */
final class FewSentences {
    private static final int[] NO_KINDS = {-1, 6, Integer.MIN_VALUE, Integer.MAX_VALUE};

    static void ask(Sentences s) {
        few(s);
        allNets(s);
        allAsRest(s);
        allBySets(s);
        shapes(s);
        best(s);
        losses(s);
        coming(s);
        allCalls(s);
        oneCalls(s);
        bestAndLossCalls(s);
        comingCalls(s);
    }

    private static TieStreet people(Checks c, int n, String more) {
        return c.street(TextSentences.people(n) + more);
    }

    private static void few(Sentences s) {
        Checks c = s.of("Terms III", "Of FEW (2 .. 5 PERSONS)");
        for (int n = 0; n <= 10; n++) {
            TieStreet x = people(c, n, "");
            boolean few = n >= 2 && n <= 5;
            for (int kind = 0; kind <= 5; kind++) {
                c.due("all(" + kind + ") of " + n, x.all(kind, false) >= 0, few);
                c.due("loss(" + kind + ") of " + n, x.loss(kind, true), few ? 0 : -1);
            }
            c.due("best() of " + n, x.best(), few ? 0 : -1);
            c.due("coming() of " + n, x.coming(), few ? 1 : -1);
        }
    }

    private static void allNets(Sentences s) {
        Checks c = s.of("Terms III", "ALL NETS that MAY be and are at REST by a kind");
        int[] nets = {1, 1, 2, 8, 64, 1024};
        for (int n = 2; n <= 5; n++) {
            TieStreet x = people(c, n, "");
            for (int kind = 0; kind <= 5; kind++) {
                c.due("all(" + kind + ") of " + n, x.all(kind, false), nets[n]);
            }
            c.due("the least", x.one(0), 0);
            c.due("the greatest", x.one(nets[n] - 1), nets[n] - 1);
        }
        TieStreet x = people(c, 5, "bar d e;");
        c.due("half of them may be", x.all(0, false), 512);
        x = people(c, 5, "most a 0;most b 0;most c 0;most d 0;");
        c.due("one alone may be", x.all(0, false), 1);
        c.due("that without TIES", x.one(0), 0);
        x = people(c, 3, "news 1 when ways = 1;most a 1;");
        c.due("at REST by kind 1: b with c, and one of them with a", x.all(1, false), 2);
        x = people(c, 4, "news 17 / ties when all;");
        c.due("none is at REST", x.all(1, false), 0);
        x = people(c, 5, "news 1 when ways = 1;");
        c.due("the last alone", x.all(1, false), 1);
        c.due("all TIES", x.one(0), 1023);
    }

    private static void allAsRest(Sentences s) {
        Checks c = s.of("Promise 19", "ALL at REST by a kind: how many NETS (shapes false)");
        String[] rules = {"", "cost 5 when all;news 12 / ways when all;", "cost 3 * mine when all;news 10 when ways = 1;news 4 when ways = 2;",
            "news 5 when is a;", "cost 4 when is b;news 4 when all;", "news 9 / theirs when ways < 3;cost mine when not is c;bar a b;",
            "news 8 - ties when all;most a 1;", "cost 2 when mine > 1;news 2 when ways = 1 or is b;"};
        for (int n = 3; n <= 5; n++) {
            for (String rule : n == 5 ? new String[] {rules[2]} : rules) {
                TieStreet x = people(c, n, rule);
                for (int kind = 0; kind <= 5; kind++) {
                    eachAsRest(c, x, kind);
                }
            }
        }
    }

    /** all() of a kind has the very NETS with which rest() answers 1. */
    private static void eachAsRest(Checks c, TieStreet x, int kind) {
        int found = 0;
        x.all(kind, false);
        for (long net = 0; net < 1L << x.has(1); net++) {
            if (x.net(net) && x.rest(kind) == 1) {
                c.due("one(" + found + ") by kind " + kind + " of " + x.has(0), x.one(found), net);
                found++;
            }
        }
        c.due("all(" + kind + ") of " + x.has(0), x.all(kind, false), found);
    }

    private static void allBySets(Sentences s) {
        Checks c = s.of("Terms II", "and make such of which both are, and all of them gain.");
        for (String who : new String[] {"a", "b"}) {
            TieStreet x = people(c, 2, "news 5 when is " + who + ";");
            c.due("a TIE by which " + who + " alone gains is no SET's", x.all(5, false), 2);
            c.due("but it is an ADD", x.all(1, false), 1);
            c.due("LOSS of that without it", x.loss(5, true), 5);
        }
        TieStreet x = people(c, 2, "news 5 when all;");
        c.due("a TIE by which both gain is a SET's", x.all(5, false), 1);
        c.due("the NET with it", x.one(0), 1);
        for (String may : new String[] {"bar a b;", "most a 0;", "most b 0;"}) {
            x = people(c, 2, "news 5 when all;" + may);
            c.due("it is none where it may not be: " + may, x.all(5, false), 1);
            c.due("the NET without TIES", x.one(0), 0);
            c.due("and nothing is lost", x.loss(5, true), 0);
        }
    }

    private static void shapes(Sentences s) {
        Checks c = s.of("Terms III", "SHAPES: of these such are one that are the same when PERSONS' numbers are exchanged.");
        int[] many = {1, 1, 2, 4, 11, 34};
        for (int n = 2; n <= 5; n++) {
            c.due("shapes of " + n, people(c, n, "").all(0, true), many[n]);
        }
        // by kind 0 with one barred: 0; one TIE, of a with c or b with c; both
        TieStreet x = people(c, 3, "bar a b;");
        c.due("shapes of those that may be", x.all(0, true), 3);
        // at REST by kind 1: one TIE of a, with b or c, and none of those two more; two of a may not be
        x = people(c, 3, "news 1 when ways = 1;most a 1;bar b c;");
        c.due("two NETS", x.all(1, false), 2);
        c.due("of one SHAPE", x.all(1, true), 1);
        x = people(c, 4, "news 17 / ties when all;");
        c.due("shapes of none", x.all(1, true), 0);
    }

    private static void best(Sentences s) {
        Checks c = s.of("Terms III", "BEST: the NET that MAY be with the most WORTH in all, of several the least number.");
        c.due("all are alike", people(c, 5, "").best(), 0);
        c.due("all TIES of five", people(c, 5, "news 1 when ways = 1;").best(), 1023);
        c.due("the last PAIR is barred", people(c, 5, "news 1 when ways = 1;bar d e;").best(), 511);
        c.due("of two", people(c, 2, "news 1 when is a;").best(), 1);
        c.due("of two, where a TIE is worth nothing", people(c, 2, "news 1 when is a;cost 1 when is b;").best(), 0);
        c.due("of two, where a TIE is worth less", people(c, 2, "cost 1 when is b;").best(), 0);
        c.due("one TIE of three: the least", people(c, 3, "news 1 when ties = 1;").best(), 1);
        c.due("one TIE of three that may be", people(c, 3, "news 1 when ties = 1;bar a b;").best(), 2);
        c.due("two TIES of three: the least", people(c, 3, "news 1 when ties = 2;").best(), 3);
        c.due("two TIES, not both of a", people(c, 3, "news 1 when ties = 2;most a 1;").best(), 5);
    }

    private static void losses(Sentences s) {
        Checks c = s.of("Terms III", "LOSS: BEST's WORTH less that of the NET at REST with the most; WORST: less that of the "
                + "one with the least.");
        // 54 with three TIES, -2 with one, -4 with two, 0 with none
        TieStreet x = people(c, 3, "news 10 when ties = 3;cost 1 when all;");
        c.due("the best is at REST", x.loss(1, false), 0);
        c.due("the worst is that without TIES", x.loss(1, true), 54);
        c.due("by kind 5 the worst is the best", x.loss(5, true), 0);
        // b has 10 of it and a pays 1: nobody makes it
        x = people(c, 2, "news 10 when is b;cost 1 when is a;");
        c.due("the best is not at REST", x.loss(1, false), 9);
        c.due("there is one alone", x.loss(1, true), 9);
        c.due("by kind 4", x.loss(4, false), 0);
        c.due("all alike", people(c, 3, "").loss(0, true), 0);
        // two TIES are worth -2 to a, one is worth -5, none 0: by kind 0 both none and two are at REST
        x = people(c, 3, "cost 15 when is a and mine = 1;cost 11 when is a;news 10 when is a and ways = 1;bar b c;");
        c.due("the best is that without TIES", x.loss(0, false), 0);
        c.due("the worst is below 0", x.loss(0, true), 2);
        c.due("by kind 2 that without TIES alone", x.loss(2, true), 0);
    }

    private static void coming(Sentences s) {
        Checks c = s.of("Terms III", "COMING: all orders of the PERSONS");
        int[] orders = {1, 1, 2, 6, 24, 120};
        for (int n = 2; n <= 5; n++) {
            TieStreet x = people(c, n, "news 1 when ways = 1;");
            c.due("coming() of " + n, x.coming(), 1);
            c.due("orders of " + n, x.comes(0, true), orders[n]);
            c.due("all TIES of " + n, x.comes(0, false), (1 << n * (n - 1) / 2) - 1);
        }

        c = s.of("Terms III", "each one as it comes ties, by the numbers of those who are there, with each with whom there is "
                + "an ADD then");
        // the third ties with the lesser of the two alone: 12 - 7 > 0, but 12 - 6 - 7 < 0
        TieStreet x = people(c, 3, "news 12 / ways when all;cost 7 when all;");
        c.due("coming()", x.coming(), 2);
        c.due("the second and the third tie with a, or a with b as the third", x.comes(0, false), 3);
        c.due("orders", x.comes(0, true), 4);
        c.due("b and c, then a with b", x.comes(1, false), 5);
        c.due("orders", x.comes(1, true), 2);
        x = people(c, 3, "news 12 / ways when all;cost 7 when all;bar a b;");
        c.due("an ADD of two who are barred is none", x.coming(), 1);
        c.due("both tie with c", x.comes(0, false), 6);
        c.due("in all orders", x.comes(0, true), 6);

        c = s.of("Terms III", "(all WORTHS of the NET among those who are there; those who are not have no way to anybody)");
        x = people(c, 2, "cost 1 when all;");
        c.due("nobody ties", x.coming(), 1);
        c.due("NET", x.comes(0, false), 0);
        // TIES of those who come later do not count yet: the first TIE is worth something alone
        x = people(c, 3, "news 5 when ties = 1;");
        c.due("coming()", x.coming(), 3);
        for (int k = 0; k < 3; k++) {
            c.due("the first two tie, and the third with nobody, " + k, x.comes(k, false), 1 << k);
            c.due("orders", x.comes(k, true), 2);
        }
        c.due("THE NET is not asked", x.net(7) && x.coming() == 3, true);

        c = s.of("Terms III", "NETS that come, by their numbers, and by how many orders.");
        x = people(c, 5, "news 5 when ties = 1;");
        c.due("coming()", x.coming(), 10);
        for (int k = 0; k < 10; k++) {
            c.due("NET " + k, x.comes(k, false), 1 << k);
            c.due("orders " + k, x.comes(k, true), 12);
        }
        c.due("behind the last", x.comes(10, false), -1);
    }

    private static void allCalls(Sentences s) {
        Checks c = s.of(19, "NONE when there is no such kind, or they are not FEW.");
        TieStreet x = people(c, 2, "");
        for (int kind : NO_KINDS) {
            c.due("all(" + kind + ", false)", x.all(kind, false), -1);
            c.due("all(" + kind + ", true)", x.all(kind, true), -1);
        }
        c.due("all(5, false)", x.all(5, false), 2);
        c.due("all(0, true)", x.all(0, true), 2);
        for (int n : new int[] {0, 1, 6, 10}) {
            x = people(c, n, "");
            c.due("all(0, false) of " + n, x.all(0, false), -1);
            c.due("all(0, true) of " + n, x.all(0, true), -1);
            c.due("one(0) of " + n, x.one(0), -1);
        }

        c = s.of(19, "how many NETS (shapes false) or SHAPES");
        x = people(c, 3, "news 1 when ways = 1;most a 1;");
        c.due("NETS", x.all(0, false), 6);
        c.due("SHAPES: none, one TIE, two TIES", x.all(0, true), 3);
        c.due("THE NET stays", x.net(), 0);
    }

    private static void oneCalls(Sentences s) {
        Checks c = s.of(20, "The k-th of the latest all() that was not NONE (of a SHAPE its least NET), by rising numbers");
        TieStreet x = people(c, 3, "");
        c.due("ahead of any", x.one(0), -1);
        x.all(0, true);
        long[] want = {0, 1, 3, 7};
        for (int k = 0; k < 4; k++) {
            c.due("of SHAPES, one(" + k + ")", x.one(k), want[k]);
        }
        x.all(6, false);
        x.loss(1, false);
        x.best();
        c.due("one that was NONE, and other calls, leave it", x.one(3), 7);
        c.due("one(4)", x.one(4), -1);
        x.all(0, false);
        for (int k = 0; k < 8; k++) {
            c.due("of NETS, one(" + k + ")", x.one(k), k);
        }
        c.due("SHAPES once more", x.all(0, true), 4);
        c.due("the last of them", x.one(3), 7);
        x.extra(1);
        c.due("fewer than ahead", x.all(0, false), 1);
        c.due("the only one", x.one(0), 0);
        c.due("nothing is left of those ahead", x.one(1), -1);
        // a may have no TIE: the least NET at REST of its SHAPE is b with c
        x = people(c, 3, "news 5 when ways = 1;most a 0;");
        c.due("all(1, true)", x.all(1, true), 1);
        c.due("of those at REST", x.one(0), 4);
        x = people(c, 5, "");
        x.all(0, true);
        for (int k = 1; k < 34; k++) {
            c.due("rising, " + k, x.one(k) > x.one(k - 1), true);
        }
        c.due("the last SHAPE of five", x.one(33), 1023);

        c = s.of(20, "NONE when there is none such.");
        c.due("one(34)", x.one(34), -1);
        for (int k : new int[] {-1, 1023, 1024, Integer.MIN_VALUE, Integer.MAX_VALUE}) {
            c.due("one(" + k + ")", x.one(k), -1);
        }
        x.all(0, false);
        c.due("one(1023)", x.one(1023), 1023);
        c.due("one(1024)", x.one(1024), -1);
        x = people(c, 4, "news 17 / ties when all;");
        x.all(1, false);
        c.due("one(0) of none", x.one(0), -1);
    }

    private static void bestAndLossCalls(Sentences s) {
        Checks c = s.of(21, "BEST; NONE when they are not FEW.");
        for (int n : new int[] {0, 1, 6, 10}) {
            c.due("of " + n, people(c, n, "news 1 when all;").best(), -1);
        }
        c.due("of two", people(c, 2, "news 1 when all;").best(), 1);
        TieStreet x = people(c, 5, "news 1 when ways = 1;");
        c.due("of five", x.best(), 1023);
        c.due("THE NET stays", x.net(), 0);
        x.extra(1000);
        c.due("with the greatest EXTRA", x.best(), 0);

        c = s.of(22, "NONE when they are not FEW, there is no such kind, or none is at REST.");
        for (int n : new int[] {0, 1, 6, 10}) {
            c.due("of " + n, people(c, n, "").loss(0, false), -1);
            c.due("WORST of " + n, people(c, n, "").loss(0, true), -1);
        }
        x = people(c, 2, "");
        for (int kind : NO_KINDS) {
            c.due("loss(" + kind + ", false)", x.loss(kind, false), -1);
            c.due("loss(" + kind + ", true)", x.loss(kind, true), -1);
        }
        c.due("loss(5, false)", x.loss(5, false), 0);
        x = people(c, 4, "news 17 / ties when all;");
        c.due("none at REST", x.loss(1, false), -1);
        c.due("WORST, none at REST", x.loss(1, true), -1);
        c.due("one at REST by kind 0", x.loss(0, true) >= 0, true);
    }

    private static void comingCalls(Sentences s) {
        Checks c = s.of(23, "COMING: how many unlike NETS come; NONE when they are not FEW.");
        for (int n : new int[] {0, 1, 6, 10}) {
            TieStreet x = people(c, n, "");
            c.due("of " + n, x.coming(), -1);
            c.due("comes(0) of " + n, x.comes(0, false), -1);
        }
        c.due("of two", people(c, 2, "").coming(), 1);
        TieStreet x = people(c, 5, "news 5 when ties = 1;");
        c.due("of five", x.coming(), 10);
        c.due("once more, not on top of it", x.coming(), 10);
        c.due("orders are not on top either", x.comes(0, true), 12);
        c.due("THE NET stays", x.net(), 0);

        c = s.of(24, "Of the k-th of the latest coming() that was not NONE: the NET (times false), or by how many orders");
        c.due("the first NET", x.comes(0, false), 1);
        c.due("the last NET", x.comes(9, false), 512);
        c.due("its orders", x.comes(9, true), 12);
        x.extra(6);
        x.all(0, false);
        c.due("other calls leave it", x.comes(9, false), 512);
        x.coming();
        c.due("the latest of two", x.comes(0, false), 0);
        c.due("its orders", x.comes(0, true), 120);

        c = s.of(24, "NONE when there is none such.");
        for (int k : new int[] {1, -1, 119, 120, Integer.MIN_VALUE, Integer.MAX_VALUE}) {
            c.due("comes(" + k + ", false)", x.comes(k, false), -1);
            c.due("comes(" + k + ", true)", x.comes(k, true), -1);
        }
        x = people(c, 2, "");
        c.due("ahead of any", x.comes(0, false), -1);
        c.due("orders ahead of any", x.comes(0, true), -1);
    }
}
