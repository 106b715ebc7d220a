/** The class and the Model are asked the same, by many texts and calls that a fixed row of numbers draws. */
public final class ModelTest {
    private static final String[] NAMES = {"a", "b", "cc", "dora", "e", "f", "gustav", "h", "ida", "j", "k"};

    private final Checks checks = new Checks();
    private long state;
    private TieStreet x;
    private Model m;
    private String ahead = "";

    public static void main(String[] args) {
        int runs = args.length > 0 ? Integer.parseInt(args[0]) : 260;
        long seed = args.length > 1 ? Long.parseLong(args[1]) : 1;
        ModelTest test = new ModelTest();
        test.state = seed;
        for (int i = 0; i < 40 * runs; i++) {
            test.text();
        }
        for (int i = 0; i < runs; i++) {
            test.run();
        }
        test.checks.finish();
    }

    private int draw(int below) {
        state = state * 6364136223846793005L + 1442695040888963407L;
        return (int) ((state >>> 33) % below);
    }

    private boolean chance(int percent) {
        return draw(100) < percent;
    }

    private String pick(String... of) {
        return of[draw(of.length)];
    }

    // ---- texts

    private String blank() {
        return chance(90) ? " " : pick("  ", "\n", " \n ");
    }

    private String sum(int deep, int scale) {
        if (deep <= 0 || chance(35)) {
            return chance(50) ? String.valueOf(draw(scale))
                    : pick("ways", "miles", "mine", "theirs", "ties", "ways", "mine");
        }
        switch (draw(9)) {
            case 0: case 1: return sum(deep - 1, scale) + blank() + pick("+", "-") + " " + sum(deep - 1, scale);
            case 2: return sum(deep - 1, scale) + pick("*", "/", " / ") + sum(deep - 1, 5);
            case 3: return "(" + sum(deep - 1, scale) + ")";
            case 4: return pick("min", "max") + "(" + sum(deep - 1, scale) + "," + sum(deep - 1, scale) + ")";
            case 5: return scale + blank() + pick("/", "-") + blank() + pick("ways", "mine", "theirs", "miles");
            case 6: return scale + pick("-", "+") + "(ties-ties/2*2)*" + draw(9);
            default: return sum(deep - 1, scale);
        }
    }

    private String test(int deep, int persons) {
        if (deep <= 0 || chance(40)) {
            if (chance(30)) {
                return "all";
            }
            if (chance(40) && persons > 0) {
                return "is " + NAMES[draw(persons)];
            }
            return sum(1, 6) + blank() + pick("<", ">", "=") + blank() + sum(1, 6);
        }
        switch (draw(4)) {
            case 0: return test(deep - 1, persons) + " or " + test(deep - 1, persons);
            case 1: return test(deep - 1, persons) + " and " + test(deep - 1, persons);
            case 2: return "not " + test(deep - 1, persons);
            default: return "[" + blank() + test(deep - 1, persons) + "]";
        }
    }

    /** Rules with which one TIE less is worse, and two less are better, or another one is better than this one. */
    private String choosyRules(int persons) {
        String who = "is " + NAMES[draw(persons)];
        return "cost " + (10 + draw(9)) + " when " + pick(who, "not " + who, "all") + " and mine = " + (1 + draw(2)) + ";"
                + "cost " + (5 + draw(9)) + " when mine > " + draw(3) + ";"
                + "news " + (10 + draw(15)) + pick("", "-miles", "/ways", "-ways") + " when " + pick("all", "ways = 1", "ways<3")
                + ";";
    }

    private String landText(int persons, int rules) {
        StringBuilder text = new StringBuilder();
        for (int p = 0; p < persons; p++) {
            text.append("who ").append(NAMES[p]).append(" at ").append(draw(chance(70) ? 30 : 1000)).append(";");
        }
        boolean choosy = persons > 0 && chance(30);
        text.append(choosy ? choosyRules(persons) : "");
        for (int r = choosy ? 3 : 0; r < rules; r++) {
            boolean cost = chance(50);
            text.append(cost ? "cost " : "news ").append(sum(2, cost ? 8 : 16)).append(" when ")
                    .append(chance(25) ? "all" : test(2, persons)).append(";");
        }
        for (int i = draw(3); i > 0 && persons >= 2 && chance(50); i--) {
            int a = draw(persons);
            text.append("bar ").append(NAMES[a]).append(" ").append(NAMES[(a + 1 + draw(persons - 1)) % persons])
                    .append(";");
        }
        for (int i = draw(3); i > 0 && persons >= 1 && chance(50); i--) {
            text.append("most ").append(NAMES[draw(persons)]).append(" ").append(draw(5)).append(";");
        }
        return text.toString();
    }

    /** A text with some of it lost, doubled or exchanged: both tell the same FAULT. */
    private void text() {
        StringBuilder text = new StringBuilder(chance(20) ? countingText() : landText(draw(4), draw(4)));
        for (int i = draw(3); i > 0 && text.length() > 0; i--) {
            int at = draw(text.length());
            int word = text.indexOf(pick("when ", "+ ", "cost ", "news ", "not "), at);
            at = chance(30) && word >= 0 ? text.indexOf(" ", word) + 1 : at;
            switch (draw(6)) {
                case 0: text.deleteCharAt(Math.min(at, text.length() - 1)); break;
                case 1: text.insert(at, pick("(", "[", "not ", ")", "]", ";", " ", "1", "a", "9999", ",", "min", "(((", "not not not ",
                        "((((((", "[[[[[", "not not not not not not "));
                    break;
                case 2: text.setCharAt(Math.min(at, text.length() - 1), (char) draw(256)); break;
                case 3: text.setLength(at); break;
                case 4: text.insert(at, pick("who", "at", "when", "all", "is ", "miles", "or ", "+", "bar a b;", "most a 3;"));
                    break;
                default: text.insert(at, text.substring(draw(at + 1), at)); break;
            }
        }
        if (text.length() > 800) {
            text.setLength(800);
        }
        x = new TieStreet();
        m = new Model();
        giveLand(text.toString());
    }

    private String countingText() {
        StringBuilder text = new StringBuilder(landText(draw(2) + 9, 0));
        for (int i = 17 + draw(5); i > 0; i--) {
            text.append(pick("cost 1 when all;", "news 2 when 1<2;"));
        }
        for (int i = 19 + draw(4); i > 0 && chance(99); i--) {
            text.append("bar a b;");
        }
        return text.append("who k at 3;").toString();
    }

    private void giveLand(String text) {
        for (int i = 0; i < text.length(); i += 20) {
            int[] n = new int[5];
            for (int k = 0; k < 20; k++) {
                n[k / 4] = n[k / 4] << 8 | (i + k < text.length() ? text.charAt(i + k) : 32);
            }
            same("feed", x.feed(n[0], n[1], n[2], n[3], n[4]), m.feed(n[0], n[1], n[2], n[3], n[4]));
        }
        ahead = text + "\n";
        same("end", x.end(text.length()) ? 1 : 0, m.end(text.length()) ? 1 : 0);
        same("land", x.land(), m.land());
        same("fault(0)", x.fault(0), m.fault(0));
        same("fault(1)", x.fault(1), m.fault(1));
    }

    private void same(String call, long got, long want) {
        checks.due(got == want ? "" : ahead + call, got, want);
    }

    // ---- calls

    private void run() {
        x = new TieStreet();
        m = new Model();
        int[] sizes = {2, 3, 3, 3, 4, 4, 4, 4, 5, 5, 6, 6, 7, 8, 9, 10, 0, 1};
        giveLand(fittingText(sizes[draw(sizes.length)]));
        for (int i = 0; i < 40; i++) {
            call();
            if (chance(4)) {
                landAgain(sizes[draw(sizes.length)]);
            }
        }
    }

    private String fittingText(int persons) {
        String text;
        do {
            text = landText(persons, 1 + draw(5));
        } while (text.length() > 800);
        return text;
    }

    /** Another LAND on the same object, or a text with a FAULT after which all stays. */
    private void landAgain(int persons) {
        String text = fittingText(persons);
        giveLand(chance(30) && text.length() > 1 ? text.substring(0, draw(text.length())) : text);
        lookRound();
    }

    /** Numbers far from all that can be: nothing throws, nothing is taken. */
    private void farNumbers() {
        int[] ints = {Integer.MIN_VALUE, Integer.MIN_VALUE + 1, Integer.MAX_VALUE, 1 << 30, -(1 << 30), 1 << 16};
        long[] longs = {Long.MIN_VALUE, Long.MAX_VALUE, 1L << 45, 1L << 46, -1L << 45, 1L << 62};
        int i = ints[draw(ints.length)];
        int j = ints[draw(ints.length)];
        long n = longs[draw(longs.length)];
        boolean flag = chance(50);
        same("net(" + n + ")", x.net(n) ? 1 : 0, m.net(n) ? 1 : 0);
        same("extra(" + i + ")", x.extra(i) ? 1 : 0, m.extra(i) ? 1 : 0);
        same("end(" + i + ")", x.end(i) ? 1 : 0, m.end(i) ? 1 : 0);
        same("worth(" + i + ")", x.worth(i), m.worth(i));
        same("ways(" + i + ", 0)", x.ways(i, 0), m.ways(i, 0));
        same("ways(0, " + i + ")", x.ways(0, i), m.ways(0, i));
        same("rest(" + i + ")", x.rest(i), m.rest(i));
        same("all(" + i + ")", x.all(i, flag), m.all(i, flag));
        same("loss(" + i + ")", x.loss(i, flag), m.loss(i, flag));
        same("gifts(" + i + ")", x.gifts(i), m.gifts(i));
        same("gift(" + i + ", 0)", x.gift(i, 0, flag), m.gift(i, 0, flag));
        same("gift(0, " + i + ")", x.gift(0, i, flag), m.gift(0, i, flag));
        same("edge(1, " + i + ", " + j + ")", x.edge(1, i, j, flag), m.edge(1, i, j, flag));
        same("edge(" + i + ", 0, 1)", x.edge(i, 0, 1, flag), m.edge(i, 0, 1, flag));
        same("lie(" + i + ")", x.lie(i), m.lie(i));
        same("shape(" + i + ", 0)", x.shape(i, 0), m.shape(i, 0));
        same("shape(2, " + i + ")", x.shape(2, i), m.shape(2, i));
        same("letter(" + i + ", " + j + ")", x.letter(i, j), m.letter(i, j));
        same("step(" + i + ")", x.step(i), m.step(i));
        same("bars(" + i + ")", x.bars(i), m.bars(i));
        same("ring(" + i + ")", x.ring(i), m.ring(i));
        same("one(" + i + ")", x.one(i), m.one(i));
        same("comes(" + i + ")", x.comes(i, flag), m.comes(i, flag));
        same("octet(" + i + ")", x.octet(i), m.octet(i));
        same("has(" + i + ")", x.has(i), m.has(i));
        same("fault(" + i + ")", x.fault(i), m.fault(i));
    }

    private int person() {
        return chance(90) && m.has(0) > 0 ? draw(m.has(0)) : draw(13) - 2;
    }

    private int kind() {
        int kind = chance(92) ? draw(6) : draw(9) - 2;
        return m.has(0) == 5 && kind == 5 && chance(80) ? 1 : kind;
    }

    private void someNet() {
        long net = 0;
        int pairs = m.has(1);
        for (int pair = 0; pair < pairs; pair++) {
            long bit = chance(45) ? 1L << pair : 0;
            net |= m.may(net | bit) ? bit : 0;
        }
        net = chance(95) ? net : net | 1L << draw(64);
        same("net(" + net + ")", x.net(net) ? 1 : 0, m.net(net) ? 1 : 0);
    }

    private void call() {
        boolean flag = chance(50);
        int p = person();
        int q = person();
        int k = kind();
        switch (draw(25)) {
            case 0: case 1: case 2: someNet(); break;
            case 3: {
                int e = chance(90) ? draw(25) - 12 : draw(2203) - 1101;
                same("extra(" + e + ")", x.extra(e) ? 1 : 0, m.extra(e) ? 1 : 0);
                break;
            }
            case 4: same("worth(" + p + ")", x.worth(p), m.worth(p)); break;
            case 5: same("worth(-1)", x.worth(-1), m.worth(-1)); break;
            case 6: same("ways(" + p + ", " + q + ")", x.ways(p, q), m.ways(p, q)); break;
            case 7: case 8: case 9: same("rest(" + k + ")", x.rest(k), m.rest(k)); break;
            case 10: same("step(-1)", x.step(-1), m.step(-1)); break;
            case 11: {
                int seed = chance(95) ? draw(Integer.MAX_VALUE) : -draw(5);
                same("step(" + seed + ")", x.step(seed), m.step(seed));
                break;
            }
            case 12:
                same("go()", x.go(), m.go());
                // where there is no CUT and no ADD one comes to SEVERAL and SWAP
                same("rest(2)", x.rest(2), m.rest(2));
                same("bars(2)", x.bars(2), m.bars(2));
                same("rest(3)", x.rest(3), m.rest(3));
                break;
            case 13: same("all(" + k + ", " + flag + ")", x.all(k, flag), m.all(k, flag)); break;
            case 14: same("best()", x.best(), m.best()); break;
            case 15: same("loss(" + k + ", " + flag + ")", x.loss(k, flag), m.loss(k, flag)); break;
            case 16: same("coming()", x.coming(), m.coming()); break;
            case 17: {
                int what = draw(4) - (chance(10) ? 1 : 0);
                same("gifts(" + what + ")", x.gifts(what), m.gifts(what));
                break;
            }
            case 18: {
                int pair = draw(Math.max(1, m.has(1)) + 2) - 1;
                same("gift(" + p + ", " + pair + ", " + flag + ")", x.gift(p, pair, flag), m.gift(p, pair, flag));
                break;
            }
            case 19: same("good(" + flag + ")", x.good(flag), m.good(flag)); break;
            case 20: {
                int from = draw(60) - 40;
                int to = from + draw(60) - 2;
                int kind = chance(90) ? Math.min(k, 4) : k;
                same("edge(" + kind + ", " + from + ", " + to + ", " + flag + ")",
                        x.edge(kind, from, to, flag), m.edge(kind, from, to, flag));
                break;
            }
            case 21: same("lie(" + p + ")", x.lie(p), m.lie(p)); break;
            case 22: {
                int which = draw(9) - 1;
                same("shape(" + which + ", " + p + ")", x.shape(which, p), m.shape(which, p));
                break;
            }
            case 23: farNumbers(); break;
            default: images(); break;
        }
        lookRound();
    }

    private void images() {
        if (chance(50)) {
            same("image()", x.image(), m.image());
            return;
        }
        int[] bytes = new int[20];
        for (int i = 0; i < 10; i++) {
            bytes[i] = Math.max(0, m.octet(i));
        }
        if (chance(50)) {
            int at = draw(9);
            int flip = 1 << draw(8);
            bytes[at] ^= flip;
            bytes[9] ^= chance(85) ? flip : 0;
        }
        int[] n = new int[5];
        for (int i = 0; i < 20; i++) {
            n[i / 4] = n[i / 4] << 8 | bytes[i];
        }
        same("feed", x.feed(n[0], n[1], n[2], n[3], n[4]), m.feed(n[0], n[1], n[2], n[3], n[4]));
        int length = chance(90) ? 10 : draw(22);
        same("end(" + length + ")", x.end(length) ? 1 : 0, m.end(length) ? 1 : 0);
        same("on()", x.on() ? 1 : 0, m.on() ? 1 : 0);
    }

    /** All that is told of earlier calls. */
    private void lookRound() {
        same("net()", x.net(), m.net());
        for (int what = -1; what <= 6; what++) {
            same("has(" + what + ")", x.has(what), m.has(what));
        }
        for (int what = -1; what <= 3; what++) {
            same("bars(" + what + ")", x.bars(what), m.bars(what));
            same("ring(" + what + ")", x.ring(what), m.ring(what));
        }
        for (int k : new int[] {-1, 0, 1, 2, 3, 7, 30, 119, 120, 500, 1023, 1024}) {
            same("one(" + k + ")", x.one(k), m.one(k));
            same("comes(" + k + ", false)", x.comes(k, false), m.comes(k, false));
            same("comes(" + k + ", true)", x.comes(k, true), m.comes(k, true));
            same("octet(" + k + ")", x.octet(k), m.octet(k));
            same("letter(" + k + ", 1)", x.letter(k, 1), m.letter(k, 1));
            same("letter(1, " + k + ")", x.letter(1, k), m.letter(1, k));
        }
        same("lied()", x.lied(), m.lied());
    }
}
