import java.util.Arrays;

/** A street of people who keep up with each other; README.md says how it is used. */
public final class TieStreet {
    public static final int NONE = -1;

    private static final int MOST_PERSONS = 10;
    private static final int MOST_PAIRS = 45;
    private static final int MOST_RULES = 20;
    private static final int MOST_BARS = 20;
    private static final int MOST_BYTES = 800;
    private static final int BYTES_A_FEED = 20;
    private static final int MOST_EXTRA = 1000;
    private static final int MOST_STEPS = 200;
    private static final int MOST_LIE = 20;
    private static final int MOST_SPAN = 200;
    private static final int FEW_PERSONS = 5;
    private static final int FEW_NETS = 1024;
    private static final int FEW_ORDERS = 120;
    private static final int SOME_PERSONS = 6;
    private static final int KINDS = 6;
    private static final int SET_KIND = 5;
    private static final int IMAGE_BYTES = 10;
    private static final long NO_WORTH = -1_000_000_000_000L;
    private static final int NO_EDGE = -1_000_000_000;

    private final Tape tape = new Tape();
    private final Pairs pairs = new Pairs();
    private final People people = new People(pairs);
    private final Rules rules = new Rules();
    private final Reader reader = new Reader(tape, new People(pairs), new Rules());
    private final Worths worths = new Worths(people, rules);
    private final Changes changes = new Changes(people, worths);
    private final Walk walk = new Walk(people, changes);
    private final Orders orders = new Orders();
    private final NetRow resting = new NetRow(FEW_NETS);
    private final NetRow arrived = new NetRow(FEW_ORDERS);
    private final int[] marks = new int[FEW_NETS];
    private final int[] octets = new int[IMAGE_BYTES];
    private final long[] barRow = new long[3];
    private final long[] ringRow = new long[2];
    private long theNet;
    private long liedWorth;

    public TieStreet() {
        Arrays.fill(octets, NONE);
        forget();
    }

    public int feed(int a, int b, int c, int d, int e) {
        if (tape.size > MOST_BYTES - BYTES_A_FEED) {
            return NONE;
        }
        tape.add(a);
        tape.add(b);
        tape.add(c);
        tape.add(d);
        tape.add(e);
        return tape.size;
    }

    public boolean end(int n) {
        if (n < 0 || n > tape.size) {
            return false;
        }
        tape.size = n;
        return true;
    }

    public int land() {
        boolean good = reader.read();
        tape.size = 0;
        if (!good) {
            return NONE;
        }
        people.copy(reader.people);
        rules.copy(reader.rules);
        forget();
        return reader.statements;
    }

    public int fault(int what) {
        if (what == 0) {
            return reader.fault;
        }
        return what == 1 ? reader.faultAt : NONE;
    }

    public int has(int what) {
        switch (what) {
            case 0: return people.persons;
            case 1: return people.pairCount;
            case 2: return rules.countOf(Rules.COST);
            case 3: return rules.countOf(Rules.NEWS);
            case 4: return worths.extra;
            case 5: return Long.bitCount(theNet);
            default: return NONE;
        }
    }

    public int letter(int person, int k) {
        if (!people.isPerson(person) || k < 0 || k >= Tokens.MOST_LETTERS) {
            return NONE;
        }
        return (people.names[person] >> (Tokens.LETTER_BITS * (Tokens.MOST_LETTERS - 1 - k))) & Tokens.LETTER_MASK;
    }

    // ---- the net

    public boolean net(long net) {
        if (!people.isNet(net) || !people.may(net)) {
            return false;
        }
        theNet = net;
        return true;
    }

    public long net() {
        return theNet;
    }

    public long shape(int which, int person) {
        int n = people.persons;
        switch (which) {
            case 0: return 0;
            case 1: return pairs.within(0, n);
            case 2: return people.isPerson(person) ? pairs.star(person, n) : NONE;
            case 3: return pairs.circle(n, n, false);
            case 4: return n >= 3 ? pairs.circle(n, n, true) : NONE;
            case 5: return people.isPerson(person) ? pairs.within(0, person) | pairs.within(person, n) : NONE;
            case 6: return people.isPerson(person) && n >= 4
                    ? pairs.circle(n, person, true) | pairs.star(person, n) : NONE;
            default: return NONE;
        }
    }

    public boolean extra(int n) {
        if (!canBeExtra(n)) {
            return false;
        }
        worths.extra = n;
        return true;
    }

    public long worth(int person) {
        if (person == NONE) {
            return worths.inAll(theNet);
        }
        return people.isPerson(person) ? worths.of(theNet, person) : NO_WORTH;
    }

    public int ways(int from, int to) {
        if (!people.isPerson(from) || !people.isPerson(to)) {
            return NONE;
        }
        worths.lay(theNet);
        worths.spread(from);
        return worths.away[to];
    }

    // ---- rests

    public int rest(int kind) {
        if (!isKind(kind) || (kind == SET_KIND && people.persons > FEW_PERSONS)) {
            return NONE;
        }
        if (!changes.endRest(theNet, kind, true)) {
            return 1;
        }
        barRow[0] = changes.sort;
        barRow[1] = changes.who;
        barRow[2] = changes.after;
        return 0;
    }

    public long bars(int what) {
        return what >= 0 && what < barRow.length ? barRow[what] : NONE;
    }

    public int step(int seed) {
        if (seed < NONE) {
            return -2;
        }
        int pair = seed == NONE ? walk.firstPair(theNet) : walk.drawnPair(theNet, seed);
        if (pair != NONE) {
            theNet ^= 1L << pair;
        }
        return pair;
    }

    public int go() {
        walk.from(theNet);
        theNet = walk.lastNet();
        ringRow[0] = walk.ringSteps;
        ringRow[1] = walk.leastOfRing();
        return walk.ended ? walk.steps : NONE;
    }

    public long ring(int what) {
        return what >= 0 && what < ringRow.length ? ringRow[what] : NONE;
    }

    // ---- few

    public int all(int kind, boolean shapes) {
        if (!areFew() || !isKind(kind)) {
            return NONE;
        }
        resting.count = 0;
        long nets = 1L << people.pairCount;
        for (long net = 0; net < nets; net++) {
            if (people.may(net) && !changes.endRest(net, kind, false)) {
                resting.note(net);
            }
        }
        if (shapes) {
            keepShapes();
        }
        return resting.count;
    }

    public long one(int k) {
        return resting.isPlace(k) ? resting.nets[k] : NONE;
    }

    public long best() {
        return areFew() ? bestNet() : NONE;
    }

    public long loss(int kind, boolean worst) {
        if (!areFew() || !isKind(kind)) {
            return NONE;
        }
        boolean found = false;
        long chosen = 0;
        long nets = 1L << people.pairCount;
        for (long net = 0; net < nets; net++) {
            if (people.may(net) && !changes.endRest(net, kind, false)) {
                long worth = worths.inAll(net);
                if (!found || (worst ? worth < chosen : worth > chosen)) {
                    chosen = worth;
                }
                found = true;
            }
        }
        return found ? worths.inAll(bestNet()) - chosen : NONE;
    }

    public int coming() {
        if (!areFew()) {
            return NONE;
        }
        arrived.count = 0;
        orders.start(people.persons);
        boolean more = true;
        for (int i = 0; i < FEW_ORDERS && more; i++) {
            arrived.note(netOfOrder());
            more = orders.advance();
        }
        return arrived.count;
    }

    public long comes(int k, boolean times) {
        if (!arrived.isPlace(k)) {
            return NONE;
        }
        return times ? arrived.times[k] : arrived.nets[k];
    }

    // ---- gifts, good ties, edges, lies

    public long gifts(int what) {
        if (what == 2) {
            return changes.firstAdd(theNet) ? 0 : 1;
        }
        if (what != 0 && what != 1) {
            return NONE;
        }
        long sum = 0;
        for (int pair = 0; pair < people.pairCount; pair++) {
            if (((theNet >> pair) & 1) != 0) {
                sum += giftOf(pairs.low[pair], pair, what == 1) + giftOf(pairs.high[pair], pair, what == 1);
            }
        }
        return sum;
    }

    public long gift(int person, int pair, boolean help) {
        if (pair < 0 || pair >= people.pairCount || ((theNet >> pair) & 1) == 0) {
            return NONE;
        }
        if (person != pairs.low[pair] && person != pairs.high[pair]) {
            return NONE;
        }
        return giftOf(person, pair, help);
    }

    public long good(boolean kept) {
        long found = 0;
        long before = worths.inAll(theNet);
        for (int pair = 0; pair < people.pairCount; pair++) {
            long bit = 1L << pair;
            boolean tied = (theNet & bit) != 0;
            if (tied == kept && people.may(theNet ^ bit)
                    && worths.inAll(theNet ^ bit) > before && !changes.moves(theNet, pair)) {
                found |= bit;
            }
        }
        return found;
    }

    public int edge(int kind, int from, int to, boolean most) {
        if (!isKind(kind) || kind == SET_KIND || people.persons > SOME_PERSONS
                || !canBeExtra(from) || !canBeExtra(to) || from > to || to - from > MOST_SPAN) {
            return NO_EDGE - 1;
        }
        int kept = worths.extra;
        int found = NO_EDGE;
        for (int i = 0; i <= to - from && found == NO_EDGE; i++) {
            int tried = most ? to - i : from + i;
            worths.extra = tried;
            if (!changes.endRest(theNet, kind, false)) {
                found = tried;
            }
        }
        worths.extra = kept;
        return found;
    }

    public int lie(int person) {
        if (!people.isPerson(person) || people.persons > SOME_PERSONS) {
            return NONE;
        }
        int bestLie = NONE;
        for (int said = 0; said <= MOST_LIE; said++) {
            worths.pretend(person, said);
            walk.from(0);
            worths.pretend(NONE, 0);
            long reached = walk.ended && walk.ringSteps == 0 ? walk.lastNet() : 0;
            long worth = worths.of(reached, person);
            if (bestLie == NONE || worth > liedWorth) {
                bestLie = said;
                liedWorth = worth;
            }
        }
        return bestLie;
    }

    public long lied() {
        return liedWorth;
    }

    // ---- images

    public int image() {
        octets[0] = people.persons;
        for (int i = 1; i <= 6; i++) {
            octets[i] = (int) (theNet >> (8 * (6 - i))) & 255;
        }
        int lifted = worths.extra + MOST_EXTRA;
        octets[7] = lifted >> 8;
        octets[8] = lifted & 255;
        int xor = 0;
        for (int i = 0; i < IMAGE_BYTES - 1; i++) {
            xor ^= octets[i];
        }
        octets[IMAGE_BYTES - 1] = xor;
        return IMAGE_BYTES;
    }

    public int octet(int k) {
        return k >= 0 && k < octets.length ? octets[k] : NONE;
    }

    public boolean on() {
        boolean taken = tape.size == IMAGE_BYTES && tape.xorOfAll() == 0
                && tape.number(0, 1) == people.persons
                && takeImage(tape.number(1, 7), tape.number(7, 9) - MOST_EXTRA);
        tape.size = 0;
        return taken;
    }

    // ---- what several of these need

    private void forget() {
        theNet = 0;
        liedWorth = NO_WORTH;
        Arrays.fill(barRow, NONE);
        Arrays.fill(ringRow, NONE);
        resting.count = 0;
        arrived.count = 0;
        worths.startAnew();
    }

    private boolean takeImage(long toldNet, long toldExtra) {
        if (toldExtra > MOST_EXTRA || !people.isNet(toldNet) || !people.may(toldNet)) {
            return false;
        }
        theNet = toldNet;
        worths.extra = (int) toldExtra;
        return true;
    }

    private boolean areFew() {
        return people.persons >= 2 && people.persons <= FEW_PERSONS;
    }

    private static boolean isKind(int kind) {
        return kind >= 0 && kind < KINDS;
    }

    private static boolean canBeExtra(int n) {
        return n >= -MOST_EXTRA && n <= MOST_EXTRA;
    }

    private long bestNet() {
        long found = 0;
        long most = worths.inAll(0);
        long nets = 1L << people.pairCount;
        for (long net = 1; net < nets; net++) {
            if (people.may(net) && worths.inAll(net) > most) {
                found = net;
                most = worths.inAll(net);
            }
        }
        return found;
    }

    /** A SHAPE's least NET at REST stands for it: they come by rising numbers, so it is the first one. */
    private void keepShapes() {
        Arrays.fill(marks, 0);
        int kept = 0;
        for (int i = 0; i < resting.count; i++) {
            long net = resting.nets[i];
            if (net < marks.length && marks[(int) net] == 0) {
                resting.nets[kept] = net;
                kept++;
                orders.mark(net, people.persons, marks);
            }
        }
        resting.count = kept;
    }

    private long netOfOrder() {
        long net = 0;
        int there = 0;
        for (int i = 0; i < people.persons && i < orders.row.length; i++) {
            int newcomer = orders.row[i];
            for (int other = 0; other < people.persons; other++) {
                if (((there >> other) & 1) != 0) {
                    int pair = Pairs.number(newcomer, other);
                    net |= changes.moves(net, pair) ? 1L << pair : 0;
                }
            }
            there |= 1 << newcomer;
        }
        return net;
    }

    private long giftOf(int person, int pair, boolean help) {
        long without = theNet & ~(1L << pair);
        int other = pairs.low[pair] == person ? pairs.high[pair] : pairs.low[pair];
        long need = Math.max(0, worths.of(without, person) - worths.of(theNet, person));
        long canPass = Math.max(0, worths.of(theNet, other) - worths.of(without, other));
        long passed = Math.min(need, canPass);
        return help ? need - passed : passed;
    }

    /** The bytes that were fed. */
    private static final class Tape {
        final int[] bytes = new int[MOST_BYTES];
        int size;

        void add(int number) {
            for (int shift = 24; shift >= 0; shift -= 8) {
                if (size >= 0 && size < bytes.length) {
                    bytes[size] = (number >> shift) & 255;
                    size++;
                }
            }
        }

        int at(int place) {
            return place >= 0 && place < size && place < bytes.length ? bytes[place] : NONE;
        }

        int xorOfAll() {
            int xor = 0;
            for (int i = 0; i < size && i < bytes.length; i++) {
                xor ^= bytes[i];
            }
            return xor;
        }

        long number(int from, int to) {
            long value = 0;
            for (int i = from; i < to && i < size && i < bytes.length; i++) {
                value = value * 256 + bytes[i];
            }
            return value;
        }
    }

    /** How PAIRS are numbered, and sets of them that follow from the numbers alone. */
    private static final class Pairs {
        final int[] low = new int[MOST_PAIRS];
        final int[] high = new int[MOST_PAIRS];
        final long[] stars = new long[MOST_PERSONS];

        Pairs() {
            int pair = 0;
            for (int b = 1; b < MOST_PERSONS; b++) {
                for (int a = 0; a < b; a++) {
                    low[pair] = a;
                    high[pair] = b;
                    stars[a] |= 1L << pair;
                    stars[b] |= 1L << pair;
                    pair++;
                }
            }
        }

        static int number(int p, int q) {
            int less = Math.min(p, q);
            int more = Math.max(p, q);
            return more * (more - 1) / 2 + less;
        }

        static int count(int persons) {
            return persons * (persons - 1) / 2;
        }

        long star(int person, int persons) {
            return stars[person] & ((1L << count(persons)) - 1);
        }

        /** All PAIRS of the PERSONS from .. to less 1. */
        long within(int from, int to) {
            long set = 0;
            for (int b = from + 1; b < to; b++) {
                for (int a = from; a < b; a++) {
                    set |= 1L << number(a, b);
                }
            }
            return set;
        }

        /** A line by numbers through all PERSONS but one (or all, if that is none of them), closed or not. */
        long circle(int persons, int but, boolean closed) {
            long set = 0;
            int first = NONE;
            int last = NONE;
            for (int p = 0; p < persons; p++) {
                if (p != but) {
                    if (last == NONE) {
                        first = p;
                    } else {
                        set |= 1L << number(last, p);
                    }
                    last = p;
                }
            }
            return closed && first != last ? set | 1L << number(first, last) : set;
        }
    }

    /** Who live on the street, and who may tie. */
    private static final class People {
        final Pairs pairs;
        final int[] names = new int[MOST_PERSONS];
        final int[] places = new int[MOST_PERSONS];
        final int[] most = new int[MOST_PERSONS];
        int persons;
        int pairCount;
        int barCount;
        long barred;

        People(Pairs pairs) {
            this.pairs = pairs;
        }

        void clear() {
            persons = 0;
            pairCount = 0;
            barCount = 0;
            barred = 0;
        }

        void copy(People other) {
            persons = other.persons;
            pairCount = other.pairCount;
            barCount = other.barCount;
            barred = other.barred;
            System.arraycopy(other.names, 0, names, 0, names.length);
            System.arraycopy(other.places, 0, places, 0, places.length);
            System.arraycopy(other.most, 0, most, 0, most.length);
        }

        void add(int name, int place) {
            if (persons < MOST_PERSONS) {
                names[persons] = name;
                places[persons] = place;
                most[persons] = MOST_PERSONS - 1;
                persons++;
                pairCount = Pairs.count(persons);
            }
        }

        int numberOf(int name) {
            for (int p = 0; p < persons; p++) {
                if (names[p] == name) {
                    return p;
                }
            }
            return NONE;
        }

        boolean isPerson(int person) {
            return person >= 0 && person < persons;
        }

        boolean isNet(long net) {
            return net >= 0 && net < 1L << pairCount;
        }

        boolean may(long net) {
            if ((net & barred) != 0) {
                return false;
            }
            for (int p = 0; p < persons; p++) {
                if (Long.bitCount(net & pairs.stars[p]) > most[p]) {
                    return false;
                }
            }
            return true;
        }
    }

    /** The costs and the news as rows of short orders to a stack, and what two PERSONS get by them. */
    private static final class Rules {
        static final int COST = 0;
        static final int NEWS = 1;
        static final int PLUS = 0;
        static final int MINUS = 1;
        static final int TIMES = 2;
        static final int OVER = 3;
        static final int LESSER = 4;
        static final int GREATER = 5;
        static final int BELOW = 6;
        static final int ABOVE = 7;
        static final int SAME = 8;
        static final int AND = 9;
        static final int OR = 10;
        static final int NOT = 11;
        static final int ALWAYS = 12;
        /** From here on: the facts of two PERSONS, in the order of Reader's words for them. */
        static final int FACT = 20;
        static final int WAYS = 0;
        static final int MILES = 1;
        static final int MINE = 2;
        static final int THEIRS = 3;
        static final int TIES = 4;
        static final int FACTS = 5;
        static final int IS = 30;
        static final int NUMBER = 100;
        static final int LIMIT = 1_000_000;
        /** Six open at once keep some thirty values waiting at most. */
        static final int STACK = 64;

        final int[] kinds = new int[MOST_RULES];
        final int[] sumAt = new int[MOST_RULES];
        final int[] testAt = new int[MOST_RULES];
        final int[] stopAt = new int[MOST_RULES];
        final int[] code = new int[MOST_BYTES];
        final long[] stack = new long[STACK];
        final int[] facts = new int[FACTS];
        int count;
        int size;
        int first;

        void clear() {
            count = 0;
            size = 0;
        }

        void copy(Rules other) {
            count = other.count;
            size = other.size;
            System.arraycopy(other.kinds, 0, kinds, 0, kinds.length);
            System.arraycopy(other.sumAt, 0, sumAt, 0, sumAt.length);
            System.arraycopy(other.testAt, 0, testAt, 0, testAt.length);
            System.arraycopy(other.stopAt, 0, stopAt, 0, stopAt.length);
            System.arraycopy(other.code, 0, code, 0, code.length);
        }

        void emit(int order) {
            if (size < code.length) {
                code[size] = order;
                size++;
            }
        }

        void add(int kind, int sumStart, int testStart) {
            if (count < MOST_RULES) {
                kinds[count] = kind;
                sumAt[count] = sumStart;
                testAt[count] = testStart;
                stopAt[count] = size;
                count++;
            }
        }

        int countOf(int kind) {
            int found = 0;
            for (int r = 0; r < count; r++) {
                found += kinds[r] == kind ? 1 : 0;
            }
            return found;
        }

        long firstSum(int kind) {
            for (int r = 0; r < count; r++) {
                if (kinds[r] == kind) {
                    int top = 0;
                    for (int i = testAt[r]; i < stopAt[r] && i < code.length; i++) {
                        top = apply(code[i], top);
                    }
                    if (stack[0] != 0) {
                        top = 0;
                        for (int i = sumAt[r]; i < testAt[r] && i < code.length; i++) {
                            top = apply(code[i], top);
                        }
                        return stack[0];
                    }
                }
            }
            return 0;
        }

        /** Does one order on the stack, of which top places are taken, and says how many are then. */
        private int apply(int order, int top) {
            if (order >= ALWAYS) {
                if (top < STACK) {
                    stack[top] = order >= NUMBER ? order - NUMBER
                            : order >= IS ? (order - IS == first ? 1 : 0)
                            : order >= FACT && order < FACT + FACTS ? facts[order - FACT] : 1;
                }
                return top + 1;
            }
            if (top < (order == NOT ? 1 : 2) || top > STACK) {
                return top;
            }
            if (order == NOT) {
                stack[top - 1] = 1 - stack[top - 1];
                return top;
            }
            long a = stack[top - 2];
            long b = stack[top - 1];
            long value = 0;
            switch (order) {
                case PLUS: value = a + b; break;
                case MINUS: value = a - b; break;
                case TIMES: value = a * b; break;
                case OVER: value = b == 0 ? 0 : a / b - (a % b != 0 && (a < 0) != (b < 0) ? 1 : 0); break;
                case LESSER: value = a < b ? a : b; break;
                case GREATER: value = a > b ? a : b; break;
                case BELOW: value = a < b ? 1 : 0; break;
                case ABOVE: value = a > b ? 1 : 0; break;
                case SAME: value = a == b ? 1 : 0; break;
                case AND: value = a & b; break;
                case OR: value = a | b; break;
                default: break;
            }
            stack[top - 2] = value > LIMIT ? LIMIT : value < -LIMIT ? -LIMIT : value;
            return top - 1;
        }
    }

    /** The tape cut into words, numbers and signs, with an end behind them. */
    private static final class Tokens {
        static final int END = 0;
        static final int WORD = 1;
        static final int NUMBER = 2;
        static final int SIGN = 3;
        /** A word or number right behind another one, where a blank must be. */
        static final int GLUED = 4;

        static final int MOST_LETTERS = 6;
        static final int MOST_DIGITS = 4;
        static final int LETTER_BITS = 5;
        static final int LETTER_MASK = 31;

        final Tape tape;
        final int[] kinds = new int[MOST_BYTES + 1];
        final int[] starts = new int[MOST_BYTES + 1];
        final int[] sizes = new int[MOST_BYTES + 1];
        /** A word's first letters packed, a number's first digits, a sign's byte. */
        final int[] values = new int[MOST_BYTES + 1];
        int count;
        private int place;

        Tokens(Tape tape) {
            this.tape = tape;
        }

        void cut() {
            count = 0;
            place = 0;
            int last = SIGN;
            for (int i = 0; i < kinds.length && last != END; i++) {
                int behind = place;
                skipBlanks();
                boolean side = place == behind && (last == WORD || last == NUMBER);
                last = cutOne();
                if (side && (last == WORD || last == NUMBER)) {
                    kinds[count] = GLUED;
                }
                count++;
            }
        }

        private void skipBlanks() {
            for (int i = 0; i < MOST_BYTES && isBlank(tape.at(place)); i++) {
                place++;
            }
        }

        private int cutOne() {
            if (count >= kinds.length) {
                return END;
            }
            int c = tape.at(place);
            starts[count] = place;
            kinds[count] = c == NONE ? END : isLetter(c) ? WORD : isDigit(c) ? NUMBER : SIGN;
            values[count] = c;
            if (kinds[count] == WORD) {
                values[count] = word();
            } else if (kinds[count] == NUMBER) {
                values[count] = number();
            } else if (kinds[count] == SIGN) {
                place++;
            }
            sizes[count] = place - starts[count];
            return kinds[count];
        }

        private int word() {
            int packed = 0;
            for (int i = 0; i < MOST_BYTES && isLetter(tape.at(place)); i++) {
                if (i < MOST_LETTERS) {
                    packed |= (tape.at(place) - 'a' + 1) << (LETTER_BITS * (MOST_LETTERS - 1 - i));
                }
                place++;
            }
            return packed;
        }

        private int number() {
            int value = 0;
            for (int i = 0; i < MOST_BYTES && isDigit(tape.at(place)); i++) {
                if (i < MOST_DIGITS) {
                    value = value * 10 + tape.at(place) - '0';
                }
                place++;
            }
            return value;
        }

        private static boolean isBlank(int c) {
            return c == 10 || c == 32;
        }

        private static boolean isLetter(int c) {
            return c >= 'a' && c <= 'z';
        }

        private static boolean isDigit(int c) {
            return c >= '0' && c <= '9';
        }
    }

    /** Reads the tape as a LAND into people and rules of its own, up to the first FAULT. */
    private static final class Reader {
        static final int MOST_OPEN = 6;
        static final int MOST_PLACE = 999;

        static final String OWN_WORDS =
                "who at cost when news bar most or and not all is ways miles mine theirs ties min max ";
        static final int OWN_COUNT = 19;
        static final int WHO = 0;
        static final int AT = 1;
        static final int COST = 2;
        static final int WHEN = 3;
        static final int NEWS = 4;
        static final int BAR = 5;
        static final int MOST = 6;
        static final int OR = 7;
        static final int AND = 8;
        static final int NOT = 9;
        static final int ALL = 10;
        static final int IS = 11;
        static final int WAYS = 12;
        static final int TIES = 16;
        static final int MIN = 17;
        static final int MAX = 18;

        final Tokens tokens;
        final People people;
        final Rules rules;
        final int[] own = new int[OWN_COUNT];
        int statements;
        int fault;
        int faultAt = NONE;
        private int token;
        private int open;
        /** What comes next, as in Tokens, and which OWN WORD it is. */
        private int kind;
        private int start;
        private int size;
        private int value;
        private int which;

        Reader(Tape tape, People people, Rules rules) {
            this.tokens = new Tokens(tape);
            this.people = people;
            this.rules = rules;
            int word = 0;
            int shift = Tokens.LETTER_BITS * Tokens.MOST_LETTERS;
            for (int i = 0; i < OWN_WORDS.length() && word < own.length; i++) {
                char c = OWN_WORDS.charAt(i);
                if (c == ' ') {
                    word++;
                    shift = Tokens.LETTER_BITS * Tokens.MOST_LETTERS;
                } else {
                    shift -= Tokens.LETTER_BITS;
                    own[word] |= (c - 'a' + 1) << shift;
                }
            }
        }

        boolean read() {
            people.clear();
            rules.clear();
            statements = 0;
            fault = 0;
            faultAt = NONE;
            open = 0;
            tokens.cut();
            token = NONE;
            take();
            boolean good = true;
            for (int i = 0; i < MOST_BYTES && good && kind != Tokens.END; i++) {
                switch (which) {
                    case WHO: good = readWho(); break;
                    case COST: good = readRule(Rules.COST); break;
                    case NEWS: good = readRule(Rules.NEWS); break;
                    case BAR: good = readBar(); break;
                    case MOST: good = readMost(); break;
                    default: good = fail(1, start); break;
                }
                good = good && takeSign(';');
                statements++;
            }
            return good;
        }

        private boolean fail(int number, int at) {
            fault = number;
            faultAt = at;
            return false;
        }

        // ---- words, numbers, signs

        /** On to what comes next; the end stays where it is. */
        private boolean take() {
            if (token + 1 < tokens.count) {
                token++;
            }
            kind = tokens.kinds[token];
            start = tokens.starts[token];
            size = tokens.sizes[token];
            value = tokens.values[token];
            which = NONE;
            for (int i = 0; i < own.length && kind == Tokens.WORD && size <= Tokens.MOST_LETTERS; i++) {
                if (own[i] == value) {
                    which = i;
                }
            }
            return true;
        }

        private boolean isSign(int c) {
            return kind == Tokens.SIGN && value == c;
        }

        private boolean takeSign(int c) {
            if (!isSign(c)) {
                return fail(1, start);
            }
            if (c == ')' || c == ']') {
                open--;
            }
            return take();
        }

        private boolean takeWord(int word) {
            return which == word ? take() : fail(1, start);
        }

        /** Takes what opens something, if that is not one too many at once. */
        private boolean takeOpening() {
            if (open >= MOST_OPEN) {
                return fail(4, start);
            }
            open++;
            return take();
        }

        /** Whether a number up to a limit comes; it stays to be taken. */
        private boolean seesNumber(int limit) {
            if (kind != Tokens.NUMBER) {
                return fail(1, start);
            }
            if (size > Tokens.MOST_DIGITS) {
                return fail(1, start + Tokens.MOST_DIGITS);
            }
            return value <= limit || fail(2, start);
        }

        /** Whether a NAME comes, of whomever; it stays to be taken. */
        private boolean seesName() {
            if (kind != Tokens.WORD || which != NONE) {
                return fail(1, start);
            }
            return size <= Tokens.MOST_LETTERS || fail(1, start + Tokens.MOST_LETTERS);
        }

        /** Whether the NAME of a PERSON comes who is another one than but; it stays to be taken. */
        private boolean seesPerson(int but) {
            if (!seesName()) {
                return false;
            }
            int person = people.numberOf(value);
            return (person != NONE && person != but) || fail(3, start);
        }

        // ---- statements

        private boolean readWho() {
            if (people.persons >= MOST_PERSONS) {
                return fail(5, start);
            }
            take();
            if (!seesName()) {
                return false;
            }
            int name = value;
            if (people.numberOf(name) != NONE) {
                return fail(3, start);
            }
            take();
            if (!takeWord(AT) || !seesNumber(MOST_PLACE)) {
                return false;
            }
            people.add(name, value);
            return take();
        }

        private boolean readRule(int sort) {
            if (rules.count >= MOST_RULES) {
                return fail(5, start);
            }
            take();
            int sumAt = rules.size;
            if (!readSum() || !takeWord(WHEN)) {
                return false;
            }
            int testAt = rules.size;
            if (!readTest()) {
                return false;
            }
            rules.add(sort, sumAt, testAt);
            return true;
        }

        private boolean readBar() {
            if (people.barCount >= MOST_BARS) {
                return fail(5, start);
            }
            take();
            if (!seesPerson(NONE)) {
                return false;
            }
            int one = people.numberOf(value);
            take();
            if (!seesPerson(one)) {
                return false;
            }
            people.barred |= 1L << Pairs.number(one, people.numberOf(value));
            people.barCount++;
            return take();
        }

        private boolean readMost() {
            take();
            if (!seesPerson(NONE)) {
                return false;
            }
            int person = people.numberOf(value);
            take();
            if (!seesNumber(MOST_PERSONS - 1)) {
                return false;
            }
            if (people.isPerson(person)) {
                people.most[person] = value;
            }
            return take();
        }

        // ---- tests and sums: no deeper than MOST_OPEN lets them go

        private boolean readTest() {
            if (!readBoth()) {
                return false;
            }
            for (int i = 0; i < MOST_BYTES && which == OR; i++) {
                take();
                if (!readBoth()) {
                    return false;
                }
                rules.emit(Rules.OR);
            }
            return true;
        }

        private boolean readBoth() {
            if (!readFact()) {
                return false;
            }
            for (int i = 0; i < MOST_BYTES && which == AND; i++) {
                take();
                if (!readFact()) {
                    return false;
                }
                rules.emit(Rules.AND);
            }
            return true;
        }

        private boolean readFact() {
            if (which == NOT) {
                if (!takeOpening() || !readFact()) {
                    return false;
                }
                open--;
                rules.emit(Rules.NOT);
                return true;
            }
            if (isSign('[')) {
                return takeOpening() && readTest() && takeSign(']');
            }
            if (which == ALL) {
                rules.emit(Rules.ALWAYS);
                return take();
            }
            if (which == IS) {
                take();
                if (!seesPerson(NONE)) {
                    return false;
                }
                rules.emit(Rules.IS + people.numberOf(value));
                return take();
            }
            return readComparison();
        }

        private boolean readComparison() {
            if (!readSum()) {
                return false;
            }
            int order = isSign('<') ? Rules.BELOW : isSign('>') ? Rules.ABOVE : isSign('=') ? Rules.SAME : NONE;
            if (order == NONE) {
                return fail(1, start);
            }
            take();
            if (!readSum()) {
                return false;
            }
            rules.emit(order);
            return true;
        }

        private boolean readSum() {
            if (!readProduct()) {
                return false;
            }
            for (int i = 0; i < MOST_BYTES && (isSign('+') || isSign('-')); i++) {
                int order = isSign('+') ? Rules.PLUS : Rules.MINUS;
                take();
                if (!readProduct()) {
                    return false;
                }
                rules.emit(order);
            }
            return true;
        }

        private boolean readProduct() {
            if (!readPart()) {
                return false;
            }
            for (int i = 0; i < MOST_BYTES && (isSign('*') || isSign('/')); i++) {
                int order = isSign('*') ? Rules.TIMES : Rules.OVER;
                take();
                if (!readPart()) {
                    return false;
                }
                rules.emit(order);
            }
            return true;
        }

        private boolean readPart() {
            if (kind == Tokens.NUMBER) {
                if (!seesNumber(Rules.LIMIT)) {
                    return false;
                }
                rules.emit(Rules.NUMBER + value);
                return take();
            }
            if (isSign('(')) {
                return takeOpening() && readSum() && takeSign(')');
            }
            if (which == MIN || which == MAX) {
                return readChoice(which == MIN ? Rules.LESSER : Rules.GREATER);
            }
            if (which >= WAYS && which <= TIES) {
                rules.emit(Rules.FACT + which - WAYS);
                return take();
            }
            return fail(1, start);
        }

        private boolean readChoice(int order) {
            take();
            if (!isSign('(')) {
                return fail(1, start);
            }
            if (!takeOpening() || !readSum() || !takeSign(',') || !readSum() || !takeSign(')')) {
                return false;
            }
            rules.emit(order);
            return true;
        }
    }

    /** What NETS are worth to PERSONS, with EXTRA, and with what one of them pretends. */
    private static final class Worths {
        /** All NETS of few have a place of their own in this many; others may drive each other out. */
        static final int PLACES = 8192;
        static final int PLACE_BITS = 13;

        final People people;
        final Rules rules;
        final long[] keys = new long[PLACES];
        final long[] kept = new long[PLACES];
        final int[] near = new int[MOST_PERSONS];
        final int[] away = new int[MOST_PERSONS];
        int extra;
        private int liar;
        private int said;
        private long laid;

        Worths(People people, Rules rules) {
            this.people = people;
            this.rules = rules;
        }

        void startAnew() {
            extra = 0;
            laid = NONE;
            pretend(NONE, 0);
            Arrays.fill(keys, NONE);
        }

        void pretend(int person, int more) {
            liar = person;
            said = more;
        }

        long of(long net, int person) {
            long key = net * people.persons + person;
            int slot = (int) (key < PLACES ? key : mix(key)) & (PLACES - 1);
            if (keys[slot] != key) {
                kept[slot] = reckon(net, person);
                keys[slot] = key;
            }
            long more = person == liar ? extra + said : extra;
            return more == 0 ? kept[slot] : kept[slot] - more * Long.bitCount(net & people.pairs.stars[person]);
        }

        private static long mix(long key) {
            return key ^ key >> PLACE_BITS ^ key >> 2 * PLACE_BITS ^ key >> 3 * PLACE_BITS;
        }

        long inAll(long net) {
            long sum = 0;
            for (int p = 0; p < people.persons; p++) {
                sum += of(net, p);
            }
            return sum;
        }

        /** Who is tied with whom, as bits; the same NET is often asked for again. */
        void lay(long net) {
            if (net == laid) {
                return;
            }
            laid = net;
            for (int p = 0; p < near.length; p++) {
                near[p] = 0;
            }
            Pairs pairs = people.pairs;
            for (int pair = 0; pair < people.pairCount; pair++) {
                if (((net >> pair) & 1) != 0) {
                    near[pairs.low[pair]] |= 1 << pairs.high[pair];
                    near[pairs.high[pair]] |= 1 << pairs.low[pair];
                }
            }
        }

        /** How many TIES lie between a PERSON and each one, in the NET that is laid. */
        void spread(int from) {
            int n = people.persons;
            for (int p = 0; p < n; p++) {
                away[p] = p == from ? 0 : NONE;
            }
            int reached = 1 << from;
            int rim = reached;
            for (int far = 1; far < n && rim != 0; far++) {
                int next = 0;
                for (int p = 0; p < n; p++) {
                    next |= ((rim >> p) & 1) != 0 ? near[p] : 0;
                }
                rim = next & ~reached;
                reached |= rim;
                for (int p = 0; p < n; p++) {
                    away[p] = ((rim >> p) & 1) != 0 ? far : away[p];
                }
            }
        }

        /** Without EXTRA, so that what is kept outlasts it. */
        private long reckon(long net, int person) {
            lay(net);
            spread(person);
            rules.first = person;
            rules.facts[Rules.MINE] = Integer.bitCount(near[person]);
            rules.facts[Rules.TIES] = Long.bitCount(net);
            long sum = 0;
            for (int other = 0; other < people.persons; other++) {
                if (away[other] > 0) {
                    rules.facts[Rules.WAYS] = away[other];
                    rules.facts[Rules.MILES] = Math.abs(people.places[person] - people.places[other]);
                    rules.facts[Rules.THEIRS] = Integer.bitCount(near[other]);
                    sum += rules.firstSum(Rules.NEWS);
                    sum -= away[other] == 1 ? rules.firstSum(Rules.COST) : 0;
                }
            }
            return sum;
        }
    }

    /** CHANGES of a NET, and the first one that ends its REST. */
    private static final class Changes {
        static final int CUT = 0;
        static final int ADD = 1;
        static final int SEVERAL = 2;
        static final int SWAP = 3;
        static final int TOGETHER = 4;
        static final int SET = 5;
        static final int FEW_SETS = 32;
        static final int MOST_CUT_SETS = 512;

        final People people;
        final Pairs pairs;
        final Worths worths;
        /** By sets of few PERSONS: PAIRS with both ends among them, and with one at least. */
        final long[] inside = new long[FEW_SETS];
        final long[] touching = new long[FEW_SETS];
        final long[] before = new long[MOST_PERSONS];
        int sort;
        int who;
        long after;

        Changes(People people, Worths worths) {
            this.people = people;
            this.pairs = people.pairs;
            this.worths = worths;
            for (int set = 0; set < FEW_SETS; set++) {
                for (int pair = 0; pair < Pairs.count(FEW_PERSONS); pair++) {
                    int ends = ((set >> pairs.low[pair]) & 1) + ((set >> pairs.high[pair]) & 1);
                    inside[set] |= ends == 2 ? 1L << pair : 0;
                    touching[set] |= ends >= 1 ? 1L << pair : 0;
                }
            }
        }

        /** Whether a CHANGE ends REST by a kind; it is the first one that does, if that is asked. */
        boolean endRest(long net, int kind, boolean askFirst) {
            switch (kind) {
                case 0: return firstCut(net);
                case 1: return firstCut(net) || firstAdd(net);
                case 2: return firstCut(net) || firstAdd(net) || firstSeveral(net);
                case 3: return firstCut(net) || firstAdd(net) || firstSwap(net);
                case 4: return firstTogether(net);
                // a CUT is a SET too, and is sooner found
                case 5: return (!askFirst && (firstCut(net) || firstBothGain(net))) || firstSet(net);
                default: return false;
            }
        }

        /** Whether there is a CUT of a PAIR that is tied, or an ADD of one that is not. */
        boolean moves(long net, int pair) {
            long then = net ^ 1L << pair;
            boolean tied = then < net;
            if (!tied && !people.may(then)) {
                return false;
            }
            long one = worths.of(then, pairs.low[pair]) - worths.of(net, pairs.low[pair]);
            if (tied ? one > 0 : one < 0) {
                return tied;
            }
            long other = worths.of(then, pairs.high[pair]) - worths.of(net, pairs.high[pair]);
            return tied ? other > 0 : other >= 0 && (one > 0 || other > 0);
        }

        boolean firstAdd(long net) {
            for (int pair = 0; pair < people.pairCount; pair++) {
                if (((net >> pair) & 1) == 0 && moves(net, pair)) {
                    return found(ADD, bothOf(pair), net | 1L << pair);
                }
            }
            return false;
        }

        private boolean found(int newSort, int persons, long newNet) {
            sort = newSort;
            who = persons;
            after = newNet;
            return true;
        }

        private int bothOf(int pair) {
            return 1 << pairs.low[pair] | 1 << pairs.high[pair];
        }

        private boolean gains(long net, long then, int person) {
            return worths.of(then, person) > worths.of(net, person);
        }

        private boolean firstCut(long net) {
            for (int pair = 0; pair < people.pairCount; pair++) {
                if (((net >> pair) & 1) != 0) {
                    long then = net & ~(1L << pair);
                    if (gains(net, then, pairs.low[pair])) {
                        return found(CUT, 1 << pairs.low[pair], then);
                    }
                    if (gains(net, then, pairs.high[pair])) {
                        return found(CUT, 1 << pairs.high[pair], then);
                    }
                }
            }
            return false;
        }

        /** The first ADD by which both gain: a SET of two. */
        private boolean firstBothGain(long net) {
            for (int pair = 0; pair < people.pairCount; pair++) {
                long then = net | 1L << pair;
                if (then != net && gains(net, then, pairs.low[pair]) && gains(net, then, pairs.high[pair])
                        && people.may(then)) {
                    return found(SET, bothOf(pair), then);
                }
            }
            return false;
        }

        private boolean firstSeveral(long net) {
            for (int p = 0; p < people.persons; p++) {
                long own = net & pairs.stars[p];
                long cut = -own & own;
                for (int i = 0; i < MOST_CUT_SETS && cut != 0; i++) {
                    if (Long.bitCount(cut) >= 2 && gains(net, net & ~cut, p)) {
                        return found(SEVERAL, 1 << p, net & ~cut);
                    }
                    // the next greater number all of whose bits are among own
                    cut = (cut - own) & own;
                }
            }
            return false;
        }

        private boolean firstSwap(long net) {
            for (int p = 0; p < people.persons; p++) {
                for (int old = 0; old < people.persons; old++) {
                    if (old != p && ((net >> Pairs.number(p, old)) & 1) != 0
                            && swapsAway(net, p, Pairs.number(p, old))) {
                        return true;
                    }
                }
            }
            return false;
        }

        private boolean swapsAway(long net, int p, int oldPair) {
            for (int other = 0; other < people.persons; other++) {
                int newPair = other == p ? oldPair : Pairs.number(p, other);
                long then = (net & ~(1L << oldPair)) | 1L << newPair;
                if (((net >> newPair) & 1) == 0 && people.may(then)
                        && worths.of(then, p) > worths.of(net, p)
                        && worths.of(then, other) >= worths.of(net, other)) {
                    return found(SWAP, 1 << p | 1 << other, then);
                }
            }
            return false;
        }

        private boolean firstTogether(long net) {
            for (int pair = 0; pair < people.pairCount; pair++) {
                long then = net ^ 1L << pair;
                int a = pairs.low[pair];
                int b = pairs.high[pair];
                if (people.may(then)
                        && worths.of(then, a) + worths.of(then, b) > worths.of(net, a) + worths.of(net, b)) {
                    return found(TOGETHER, bothOf(pair), then);
                }
            }
            return false;
        }

        private boolean firstSet(long net) {
            if (people.persons > FEW_PERSONS) {
                return false;
            }
            for (int p = 0; p < people.persons; p++) {
                before[p] = worths.of(net, p);
            }
            long nets = 1L << people.pairCount;
            for (long then = 0; then < nets; then++) {
                long made = then & ~net;
                int maker = firstMaker(made);
                // most are done with here: who makes a TIE must gain
                if (maker == NONE || worths.of(then, maker) > before[maker]) {
                    int set = leastSet(gainers(then), made, net & ~then);
                    if (set != 0 && people.may(then)) {
                        return found(SET, set, then);
                    }
                }
            }
            return false;
        }

        private int firstMaker(long made) {
            for (int p = 0; p < people.persons && made != 0; p++) {
                if ((made & pairs.stars[p]) != 0) {
                    return p;
                }
            }
            return NONE;
        }

        private int gainers(long then) {
            int set = 0;
            for (int p = 0; p < people.persons; p++) {
                set |= worths.of(then, p) > before[p] ? 1 << p : 0;
            }
            return set;
        }

        /** The least set among those who gain that can make and cut these; 0 when there is none. */
        private int leastSet(int gaining, long made, long cut) {
            for (int set = 1; set < FEW_SETS && set <= gaining; set++) {
                if ((set & ~gaining) == 0 && (made & ~inside[set]) == 0 && (cut & ~touching[set]) == 0) {
                    return set;
                }
            }
            return 0;
        }
    }

    /** STEPS in order or drawn, and where GOING leads. */
    private static final class Walk {
        static final long FACTOR = 1103515245L;
        static final long ADDEND = 12345L;
        static final long MODULUS = 1L << 31;
        static final long DROPPED = 256L;

        final People people;
        final Changes changes;
        final long[] nets = new long[MOST_STEPS + 1];
        final int[] moving = new int[MOST_PAIRS];
        int steps;
        int ringSteps;
        boolean ended;

        Walk(People people, Changes changes) {
            this.people = people;
            this.changes = changes;
        }

        int firstPair(long net) {
            for (int pair = 0; pair < people.pairCount; pair++) {
                if (changes.moves(net, pair)) {
                    return pair;
                }
            }
            return NONE;
        }

        int drawnPair(long net, int seed) {
            int count = 0;
            for (int pair = 0; pair < people.pairCount; pair++) {
                if (changes.moves(net, pair)) {
                    moving[count] = pair;
                    count++;
                }
            }
            if (count == 0) {
                return NONE;
            }
            long x = (FACTOR * seed + ADDEND) % MODULUS;
            return moving[(int) (x / DROPPED % count)];
        }

        void from(long net) {
            nets[0] = net;
            steps = 0;
            ringSteps = 0;
            ended = false;
            for (int i = 0; i <= MOST_STEPS && !ended; i++) {
                int pair = firstPair(nets[steps]);
                if (pair == NONE) {
                    ended = true;
                } else if (steps < MOST_STEPS) {
                    nets[steps + 1] = nets[steps] ^ 1L << pair;
                    steps++;
                    ringSteps = stepsSinceThere();
                    ended = ringSteps > 0;
                }
            }
        }

        long lastNet() {
            return nets[steps];
        }

        long leastOfRing() {
            if (ringSteps == 0) {
                return NONE;
            }
            long least = nets[steps];
            for (int i = steps - ringSteps; i < steps; i++) {
                if (i >= 0 && nets[i] < least) {
                    least = nets[i];
                }
            }
            return least;
        }

        private int stepsSinceThere() {
            for (int i = 0; i < steps; i++) {
                if (nets[i] == nets[steps]) {
                    return steps - i;
                }
            }
            return 0;
        }
    }

    /** The orders of few PERSONS, one after another. */
    private static final class Orders {
        final int[] row = new int[FEW_PERSONS];
        private int size;

        void start(int persons) {
            size = Math.min(persons, row.length);
            for (int i = 0; i < size; i++) {
                row[i] = i;
            }
        }

        /** On to the next order by the alphabet; false behind the last one. */
        boolean advance() {
            int left = size - 2;
            while (left >= 0 && row[left] > row[left + 1]) {
                left--;
            }
            if (left < 0) {
                return false;
            }
            int right = size - 1;
            while (right > left && row[right] < row[left]) {
                right--;
            }
            swap(left, right);
            int from = left + 1;
            for (int to = size - 1; to > from; to--) {
                swap(from, to);
                from++;
            }
            return true;
        }

        /** Marks all NETS that are the same as this one when PERSONS' numbers are exchanged. */
        void mark(long net, int persons, int[] marks) {
            start(persons);
            boolean more = true;
            for (int i = 0; i < FEW_ORDERS && more; i++) {
                long same = renamed(net);
                if (same < marks.length) {
                    marks[(int) same] = 1;
                }
                more = advance();
            }
        }

        private long renamed(long net) {
            long same = 0;
            for (int b = 1; b < size; b++) {
                for (int a = 0; a < b; a++) {
                    if (((net >> Pairs.number(a, b)) & 1) != 0) {
                        same |= 1L << Pairs.number(row[a], row[b]);
                    }
                }
            }
            return same;
        }

        private void swap(int i, int j) {
            int kept = row[i];
            row[i] = row[j];
            row[j] = kept;
        }
    }

    /** Unlike NETS by rising numbers, and how often each one was noted. */
    private static final class NetRow {
        final long[] nets;
        final int[] times;
        int count;

        NetRow(int room) {
            nets = new long[room];
            times = new int[room];
        }

        boolean isPlace(int k) {
            return k >= 0 && k < count;
        }

        void note(long net) {
            int place = count;
            while (place > 0 && nets[place - 1] > net) {
                place--;
            }
            if (place > 0 && nets[place - 1] == net) {
                times[place - 1]++;
            } else if (count < nets.length) {
                for (int i = count; i > place; i--) {
                    nets[i] = nets[i - 1];
                    times[i] = times[i - 1];
                }
                nets[place] = net;
                times[place] = 1;
                count++;
            }
        }
    }
}
