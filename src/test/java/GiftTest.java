/** Promises 25 to 27: gifts, gift, good. */
public final class GiftTest {
    public static void main(String[] args) {
        Checks c = new Checks();
        passed(c);
        helped(c);
        both(c);
        stands(c);
        good(c);
        kept(c);
        c.finish();
    }

    private static void passed(Checks c) {
        // b needs 3 of the tie, a would lose 10
        TieStreet x = c.street("who a at 0; who b at 0; news 10 when is a; cost 3 when is b;");
        c.due("gifts(0) without ties", x.gifts(0), 0);
        c.due("gift of no tie", x.gift(1, 0, false), -1);
        x.net(1);
        c.due("gift(1, 0, false)", x.gift(1, 0, false), 3);
        c.due("gift(1, 0, true)", x.gift(1, 0, true), 0);
        c.due("gift(0, 0, false)", x.gift(0, 0, false), 0);
        c.due("gift(0, 0, true)", x.gift(0, 0, true), 0);
        c.due("gifts(0)", x.gifts(0), 3);
        c.due("gifts(1)", x.gifts(1), 0);
        c.due("gifts(2)", x.gifts(2), 1);
        c.due("gifts(3)", x.gifts(3), -1);
        c.due("gifts(-1)", x.gifts(-1), -1);
        c.due("gift(2, 0, false)", x.gift(2, 0, false), -1);
        c.due("gift(-1, 0, false)", x.gift(-1, 0, false), -1);
        c.due("gift(0, 1, false)", x.gift(0, 1, false), -1);
        c.due("gift(0, -1, false)", x.gift(0, -1, false), -1);
        c.due("gift(0, 64, false)", x.gift(0, 64, false), -1);
        c.due("gift(0, -64, false)", x.gift(0, -64, false), -1);
        c.due("gift(0, MAX, false)", x.gift(0, Integer.MAX_VALUE, false), -1);
        x.extra(7);
        c.due("need 10, loss 3", x.gift(1, 0, false), 3);
        c.due("and 7 of help", x.gift(1, 0, true), 7);
    }

    private static void helped(Checks c) {
        TieStreet x = c.street("who a at 0; who b at 0; who d at 0; news 4 when is a; cost 9 when is b;");
        x.net(5);
        // b needs 9 of each; a would lose 8 by the first, d 0 by the second
        c.due("gift(1, 0, false)", x.gift(1, 0, false), 8);
        c.due("gift(1, 0, true)", x.gift(1, 0, true), 1);
        c.due("gift(1, 2, false)", x.gift(1, 2, false), 0);
        c.due("gift(1, 2, true)", x.gift(1, 2, true), 9);
        c.due("gift(2, 2, true)", x.gift(2, 2, true), 0);
        c.due("gift of another's tie", x.gift(2, 0, true), -1);
        c.due("gift of a pair that is not tied", x.gift(0, 1, true), -1);
        c.due("gifts(0)", x.gifts(0), 8);
        c.due("gifts(1)", x.gifts(1), 10);
    }

    private static void both(Checks c) {
        TieStreet x = c.street("who a at 0; who b at 0; cost 3 when is b; cost 2 when is a;");
        x.net(1);
        c.due("gifts(0)", x.gifts(0), 0);
        c.due("gifts(1)", x.gifts(1), 5);
        c.due("gift(0, 0, true)", x.gift(0, 0, true), 2);
        c.due("gift(1, 0, true)", x.gift(1, 0, true), 3);
    }

    private static void stands(Checks c) {
        TieStreet x = c.street("who a at 0; who b at 0; who d at 0; news 4 when is a and ways = 1;");
        x.net(1);
        c.due("an ADD is left", x.gifts(2), 0);
        x.net(3);
        c.due("none is left", x.gifts(2), 1);
        c.due("THE NET stays", x.net(), 3);
    }

    private static void good(Checks c) {
        TieStreet x = c.street("who a at 0; who b at 0; who d at 0; news 10 when is a and ways = 1; cost 3 when not is a;");
        c.due("a would have 10, the others lose 3 each", x.good(false), 3);
        c.due("no ties to keep", x.good(true), 0);
        x.net(1);
        c.due("one is left", x.good(false), 2);
        c.due("b would cut it, and all would lose", x.good(true), 0);
        x = c.street("who a at 0; who b at 0; who d at 0; news 10 when is a and ways = 1; cost 3 when not is a; bar a b;");
        c.due("not of those who may not", x.good(false), 2);
        x = c.street("who a at 0; who b at 0; who d at 0; news 10 when is a and ways = 1; cost 3 when not is a; most d 0;");
        c.due("nor of those who may have no more", x.good(false), 1);
        x = c.street("who a at 0; who b at 0; news 10 when all;");
        c.due("not where there is an ADD", x.good(false), 0);
        x = c.street("who a at 0; who b at 0; news 3 when is a; cost 3 when is b;");
        c.due("as much as ahead is not more", x.good(false), 0);
        c.due("nobody", new TieStreet().good(false), 0);
    }

    private static void kept(Checks c) {
        // a and b like their tie, d suffers from each tie that others have
        TieStreet x = c.street("who a at 0; who b at 0; who d at 0; news 0 - 5 * ties when is d; news 1 when all;");
        x.net(5);
        c.due("d: -20; by cutting 01 alone d has -5, so all have more", x.good(true), 1);
        x = c.street("who a at 0; who b at 0; news 10 when is a; cost 30 when is b;");
        x.net(1);
        c.due("not where there is a CUT", x.good(true), 0);
    }
}
