import java.util.ArrayList;
import java.util.Arrays;
import java.util.Collections;
import java.util.HashMap;
import java.util.List;
import java.util.Map;
import java.util.TreeMap;

/**
 * The document once more, written as plainly as the Java library lets one and in another way than the class,
 * with no care for speed: ModelTest asks both the same.
 */
final class Model {
    static final long NO_WORTH = -1000000000000L;
    private static final List<String> OWN = List.of("who", "at", "cost", "when", "news", "bar", "most", "or", "and",
            "not", "all", "is", "ways", "miles", "mine", "theirs", "ties", "min", "max");

    /** Two PERSONS in a NET. */
    record Two(int first, int ways, int miles, int mine, int theirs, int ties) { }

    interface Sum { long of(Two two); }

    interface Test { boolean of(Two two); }

    record Rule(boolean cost, Sum sum, Test test) { }

    record Change(int sort, long who, long after) { }

    static final class Fault extends RuntimeException {
        private static final long serialVersionUID = 1L;
        final int number;
        final int place;

        Fault(int number, int place) {
            this.number = number;
            this.place = place;
        }
    }

    static final class Land {
        final List<String> names = new ArrayList<>();
        final List<Integer> places = new ArrayList<>();
        final Map<Integer, Integer> most = new HashMap<>();
        final List<int[]> bars = new ArrayList<>();
        final List<Rule> rules = new ArrayList<>();
        int statements;

        int n() {
            return names.size();
        }
    }

    // ---- reading, byte by byte

    static final class Parser {
        final String text;
        final Land land = new Land();
        int at;
        int open;

        Parser(String text) {
            this.text = text;
        }

        Land parse() {
            blanks();
            while (at < text.length()) {
                statement();
                land.statements++;
                blanks();
            }
            return land;
        }

        void blanks() {
            while (at < text.length() && (text.charAt(at) == 10 || text.charAt(at) == 32)) {
                at++;
            }
        }

        static boolean letter(char c) {
            return 'a' <= c && c <= 'z';
        }

        static boolean digit(char c) {
            return '0' <= c && c <= '9';
        }

        /** The run of letters, or of digits, that begins here; empty, if it sticks to what is ahead. */
        String run(boolean letters) {
            if (at > 0 && at < text.length() && letters && digit(text.charAt(at - 1))) {
                return "";
            }
            if (at > 0 && at < text.length() && !letters && letter(text.charAt(at - 1))) {
                return "";
            }
            int to = at;
            while (to < text.length() && (letters ? letter(text.charAt(to)) : digit(text.charAt(to)))) {
                to++;
            }
            return text.substring(at, to);
        }

        Fault one(int place) {
            return new Fault(1, place);
        }

        boolean seen(String what) {
            blanks();
            if (letter(what.charAt(0))) {
                return run(true).equals(what);
            }
            return text.startsWith(what, at);
        }

        boolean took(String what) {
            boolean there = seen(what);
            if (there) {
                at += what.length();
            }
            return there;
        }

        void must(String what) {
            if (!took(what)) {
                throw one(at);
            }
        }

        String name() {
            blanks();
            String word = run(true);
            if (word.isEmpty() || OWN.contains(word)) {
                throw one(at);
            }
            if (word.length() > 6) {
                throw one(at + 6);
            }
            return word;
        }

        int person(int but) {
            String word = name();
            int person = land.names.indexOf(word);
            if (person < 0 || person == but) {
                throw new Fault(3, at);
            }
            at += word.length();
            return person;
        }

        int number(int limit) {
            blanks();
            String digits = run(false);
            if (digits.isEmpty()) {
                throw one(at);
            }
            if (digits.length() > 4) {
                throw one(at + 4);
            }
            int value = Integer.parseInt(digits);
            if (value > limit) {
                throw new Fault(2, at);
            }
            at += digits.length();
            return value;
        }

        void statement() {
            int start = at;
            if (took("who")) {
                tooMany(land.n() == 10, start);
                String word = name();
                if (land.names.contains(word)) {
                    throw new Fault(3, at);
                }
                at += word.length();
                must("at");
                int place = number(999);
                land.names.add(word);
                land.places.add(place);
            } else if (seen("cost") || seen("news")) {
                boolean cost = seen("cost");
                at += 4;
                tooMany(land.rules.size() == 20, start);
                Sum sum = sum();
                must("when");
                land.rules.add(new Rule(cost, sum, test()));
            } else if (took("bar")) {
                tooMany(land.bars.size() == 20, start);
                int a = person(-1);
                land.bars.add(new int[] {a, person(a)});
            } else if (took("most")) {
                int a = person(-1);
                land.most.put(a, number(9));
            } else {
                throw one(start);
            }
            must(";");
        }

        void tooMany(boolean there, int start) {
            if (there) {
                throw new Fault(5, start);
            }
        }

        void opened(int place) {
            open++;
            if (open == 7) {
                throw new Fault(4, place);
            }
        }

        Test test() {
            Test left = both();
            while (took("or")) {
                Test a = left;
                Test b = both();
                left = t -> a.of(t) || b.of(t);
            }
            return left;
        }

        Test both() {
            Test left = fact();
            while (took("and")) {
                Test a = left;
                Test b = fact();
                left = t -> a.of(t) && b.of(t);
            }
            return left;
        }

        Test fact() {
            blanks();
            int start = at;
            if (took("not")) {
                opened(start);
                Test inner = fact();
                open--;
                return t -> !inner.of(t);
            }
            if (took("[")) {
                opened(start);
                Test inner = test();
                must("]");
                open--;
                return inner;
            }
            if (took("all")) {
                return t -> true;
            }
            if (took("is")) {
                int person = person(-1);
                return t -> t.first() == person;
            }
            Sum a = sum();
            blanks();
            char sign = at < text.length() ? text.charAt(at) : 0;
            if (sign != '<' && sign != '>' && sign != '=') {
                throw one(at);
            }
            at++;
            Sum b = sum();
            return t -> sign == '<' ? a.of(t) < b.of(t) : sign == '>' ? a.of(t) > b.of(t) : a.of(t) == b.of(t);
        }

        Sum sum() {
            Sum left = product();
            while (seen("+") || seen("-")) {
                boolean plus = took("+") || !took("-");
                Sum a = left;
                Sum b = product();
                left = t -> held(plus ? a.of(t) + b.of(t) : a.of(t) - b.of(t));
            }
            return left;
        }

        Sum product() {
            Sum left = part();
            while (seen("*") || seen("/")) {
                boolean times = took("*") || !took("/");
                Sum a = left;
                Sum b = part();
                left = t -> times ? held(a.of(t) * b.of(t)) : b.of(t) == 0 ? 0 : Math.floorDiv(a.of(t), b.of(t));
            }
            return left;
        }

        static long held(long v) {
            return v > 1000000 ? 1000000 : v < -1000000 ? -1000000 : v;
        }

        Sum part() {
            blanks();
            int start = at;
            if (at < text.length() && !run(false).isEmpty()) {
                int value = number(9999);
                return t -> value;
            }
            if (took("ways")) {
                return Two::ways;
            }
            if (took("miles")) {
                return Two::miles;
            }
            if (took("mine")) {
                return Two::mine;
            }
            if (took("theirs")) {
                return Two::theirs;
            }
            if (took("ties")) {
                return Two::ties;
            }
            if (took("(")) {
                opened(start);
                Sum inner = sum();
                must(")");
                open--;
                return inner;
            }
            boolean min = seen("min");
            if (min || seen("max")) {
                at += 3;
                blanks();
                int paren = at;
                must("(");
                opened(paren);
                Sum a = sum();
                must(",");
                Sum b = sum();
                must(")");
                open--;
                return t -> min ? Math.min(a.of(t), b.of(t)) : Math.max(a.of(t), b.of(t));
            }
            throw one(start);
        }
    }

    // ---- the state

    private final List<Integer> tape = new ArrayList<>();
    private Land land = new Land();
    private long net;
    private int extra;
    private int[] lies = new int[10];
    private int fault;
    private int faultAt = -1;
    private Change bar;
    private long[] ring;
    private List<Long> resting = new ArrayList<>();
    private TreeMap<Long, Integer> arrived = new TreeMap<>();
    private long lied = NO_WORTH;
    private int[] octets;

    int feed(int a, int b, int c, int d, int e) {
        if (tape.size() + 20 > 800) {
            return -1;
        }
        for (int number : new int[] {a, b, c, d, e}) {
            for (int i = 3; i >= 0; i--) {
                tape.add(number >>> 8 * i & 255);
            }
        }
        return tape.size();
    }

    boolean end(int n) {
        if (n < 0 || n > tape.size()) {
            return false;
        }
        while (tape.size() > n) {
            tape.remove(tape.size() - 1);
        }
        return true;
    }

    int land() {
        StringBuilder text = new StringBuilder();
        for (int b : tape) {
            text.append((char) b);
        }
        tape.clear();
        try {
            land = new Parser(text.toString()).parse();
        } catch (Fault f) {
            fault = f.number;
            faultAt = f.place;
            return -1;
        }
        fault = 0;
        faultAt = -1;
        net = 0;
        extra = 0;
        bar = null;
        ring = null;
        resting = new ArrayList<>();
        arrived = new TreeMap<>();
        lied = NO_WORTH;
        known.clear();
        return land.statements;
    }

    int fault(int what) {
        return what == 0 ? fault : what == 1 ? faultAt : -1;
    }

    int has(int what) {
        int costs = (int) land.rules.stream().filter(Rule::cost).count();
        int[] all = {n(), pairs(), costs, land.rules.size() - costs, extra, Long.bitCount(net)};
        return what >= 0 && what < 6 ? all[what] : -1;
    }

    int letter(int person, int k) {
        if (person < 0 || person >= n() || k < 0 || k > 5) {
            return -1;
        }
        String name = land.names.get(person);
        return k < name.length() ? name.charAt(k) - 96 : 0;
    }

    // ---- nets

    int n() {
        return land.n();
    }

    int pairs() {
        return n() * (n() - 1) / 2;
    }

    static long bit(int a, int b) {
        return a < b ? 1L << b * (b - 1) / 2 + a : bit(b, a);
    }

    int[] ends(int pair) {
        for (int b = 0; b < 10; b++) {
            for (int a = 0; a < b; a++) {
                if (bit(a, b) == 1L << pair) {
                    return new int[] {a, b};
                }
            }
        }
        throw new IllegalStateException();
    }

    static boolean tied(long net, int a, int b) {
        return a != b && (net & bit(a, b)) != 0;
    }

    int ties(long net, int p) {
        int count = 0;
        for (int q = 0; q < n(); q++) {
            count += tied(net, p, q) ? 1 : 0;
        }
        return count;
    }

    boolean isNet(long net) {
        return net >= 0 && net >> pairs() == 0;
    }

    boolean may(long net) {
        for (int[] two : land.bars) {
            if (tied(net, two[0], two[1])) {
                return false;
            }
        }
        for (int p = 0; p < n(); p++) {
            if (ties(net, p) > land.most.getOrDefault(p, 9)) {
                return false;
            }
        }
        return true;
    }

    /** By making all ways longer, tie by tie. */
    int ways(long net, int from, int to) {
        boolean[] there = new boolean[10];
        there[from] = true;
        for (int far = 0; far <= 10; far++) {
            if (there[to]) {
                return far;
            }
            boolean[] next = there.clone();
            for (int p = 0; p < n(); p++) {
                for (int q = 0; q < n(); q++) {
                    next[q] |= there[p] && tied(net, p, q);
                }
            }
            there = next;
        }
        return -1;
    }

    long first(boolean cost, long net, int a, int b) {
        Two two = new Two(a, ways(net, a, b), Math.abs(land.places.get(a) - land.places.get(b)),
                ties(net, a), ties(net, b), Long.bitCount(net));
        for (Rule rule : land.rules) {
            if (rule.cost() == cost && rule.test().of(two)) {
                return rule.sum().of(two);
            }
        }
        return 0;
    }

    private final Map<Long, long[]> known = new HashMap<>();

    long worth(long net, int p) {
        long[] bare = known.computeIfAbsent(net, k -> bareWorths(net));
        return bare[p] - (long) ties(net, p) * (extra + lies[p]);
    }

    private long[] bareWorths(long net) {
        long[] sums = new long[10];
        for (int p = 0; p < n(); p++) {
            for (int q = 0; q < n(); q++) {
                if (p != q && ways(net, p, q) > 0) {
                    sums[p] += first(false, net, p, q);
                }
                if (tied(net, p, q)) {
                    sums[p] -= first(true, net, p, q);
                }
            }
        }
        return sums;
    }

    long inAll(long net) {
        long sum = 0;
        for (int p = 0; p < n(); p++) {
            sum += worth(net, p);
        }
        return sum;
    }

    boolean net(long net) {
        if (!isNet(net) || !may(net)) {
            return false;
        }
        this.net = net;
        return true;
    }

    long net() {
        return net;
    }

    long shape(int which, int person) {
        boolean there = person >= 0 && person < n();
        if (which < 0 || which > 6 || ((which == 2 || which >= 5) && !there)
                || (which == 4 && n() < 3) || (which == 6 && n() < 4)) {
            return -1;
        }
        List<Integer> round = new ArrayList<>();
        for (int p = 0; p < n(); p++) {
            if (which != 6 || p != person) {
                round.add(p);
            }
        }
        long set = 0;
        for (int b = 0; b < n(); b++) {
            for (int a = 0; a < b; a++) {
                boolean star = a == person || b == person;
                int i = round.indexOf(a);
                int j = round.indexOf(b);
                boolean line = i >= 0 && j >= 0 && j - i == 1;
                boolean closed = line || (i == 0 && j == round.size() - 1);
                boolean[] in = {false, true, star, line, closed, (a < person) == (b < person), star || closed};
                set |= in[which] ? bit(a, b) : 0;
            }
        }
        return set;
    }

    boolean extra(int n) {
        if (n < -1000 || n > 1000) {
            return false;
        }
        extra = n;
        return true;
    }

    long worth(int person) {
        return person == -1 ? inAll(net) : person >= 0 && person < n() ? worth(net, person) : NO_WORTH;
    }

    int ways(int from, int to) {
        return from < 0 || to < 0 || from >= n() || to >= n() ? -1 : ways(net, from, to);
    }

    // ---- changes, all of a sort in their order

    boolean gains(long from, long to, int p) {
        return worth(to, p) > worth(from, p);
    }

    boolean loses(long from, long to, int p) {
        return worth(to, p) < worth(from, p);
    }

    List<Change> cuts(long net) {
        List<Change> found = new ArrayList<>();
        for (int pair = 0; pair < pairs(); pair++) {
            for (int p : ends(pair)) {
                long to = net & ~(1L << pair);
                if (to != net && gains(net, to, p)) {
                    found.add(new Change(0, 1 << p, to));
                }
            }
        }
        return found;
    }

    List<Change> adds(long net) {
        List<Change> found = new ArrayList<>();
        for (int pair = 0; pair < pairs(); pair++) {
            long to = net | 1L << pair;
            int a = ends(pair)[0];
            int b = ends(pair)[1];
            if (to != net && may(to) && !loses(net, to, a) && !loses(net, to, b)
                    && (gains(net, to, a) || gains(net, to, b))) {
                found.add(new Change(1, 1 << a | 1 << b, to));
            }
        }
        return found;
    }

    List<Change> severals(long net) {
        List<Change> found = new ArrayList<>();
        for (int p = 0; p < n(); p++) {
            List<Long> sets = new ArrayList<>(List.of(0L));
            for (int q = 0; q < n(); q++) {
                if (tied(net, p, q)) {
                    for (long set : new ArrayList<>(sets)) {
                        sets.add(set | bit(p, q));
                    }
                }
            }
            Collections.sort(sets);
            for (long set : sets) {
                if (Long.bitCount(set) > 1 && gains(net, net ^ set, p)) {
                    found.add(new Change(2, 1 << p, net ^ set));
                }
            }
        }
        return found;
    }

    List<Change> swaps(long net) {
        List<Change> found = new ArrayList<>();
        for (int p = 0; p < n(); p++) {
            for (int cut = 0; cut < pairs(); cut++) {
                for (int made = 0; made < pairs(); made++) {
                    int[] old = ends(cut);
                    int[] fresh = ends(made);
                    boolean own = (old[0] == p || old[1] == p) && (fresh[0] == p || fresh[1] == p);
                    if (own && (net >> cut & 1) == 1 && (net >> made & 1) == 0) {
                        int other = fresh[0] + fresh[1] - p;
                        long to = net - (1L << cut) + (1L << made);
                        if (may(to) && gains(net, to, p) && !loses(net, to, other)) {
                            found.add(new Change(3, 1 << p | 1 << other, to));
                        }
                    }
                }
            }
        }
        return found;
    }

    List<Change> togethers(long net) {
        List<Change> found = new ArrayList<>();
        for (int pair = 0; pair < pairs(); pair++) {
            int a = ends(pair)[0];
            int b = ends(pair)[1];
            long to = net ^ 1L << pair;
            if (may(to) && worth(to, a) + worth(to, b) > worth(net, a) + worth(net, b)) {
                found.add(new Change(4, 1 << a | 1 << b, to));
            }
        }
        return found;
    }

    /** The first one alone: there are very many. */
    List<Change> sets(long net) {
        for (long to = 0; to < 1L << pairs(); to++) {
            for (int set = 1; set < 1 << n(); set++) {
                if (may(to) && canSet(net, to, set)) {
                    return List.of(new Change(5, set, to));
                }
            }
        }
        return List.of();
    }

    private boolean canSet(long net, long to, int set) {
        for (int p = 0; p < n(); p++) {
            if ((set >> p & 1) == 1 && !gains(net, to, p)) {
                return false;
            }
        }
        for (int pair = 0; pair < pairs(); pair++) {
            int[] e = ends(pair);
            int among = (set >> e[0] & 1) + (set >> e[1] & 1);
            long was = net >> pair & 1;
            long is = to >> pair & 1;
            if ((was == 1 && is == 0 && among == 0) || (was == 0 && is == 1 && among < 2)) {
                return false;
            }
        }
        return true;
    }

    Change firstBar(long net, int kind) {
        List<Change> all = new ArrayList<>();
        if (kind <= 3) {
            all.addAll(cuts(net));
        }
        if (kind >= 1 && kind <= 3 && all.isEmpty()) {
            all.addAll(adds(net));
        }
        if (kind == 2 && all.isEmpty()) {
            all.addAll(severals(net));
        }
        if (kind == 3 && all.isEmpty()) {
            all.addAll(swaps(net));
        }
        if (kind == 4) {
            all.addAll(togethers(net));
        }
        if (kind == 5) {
            all.addAll(sets(net));
        }
        return all.isEmpty() ? null : all.get(0);
    }

    int rest(int kind) {
        if (kind < 0 || kind > 5 || (kind == 5 && n() > 5)) {
            return -1;
        }
        Change first = firstBar(net, kind);
        if (first == null) {
            return 1;
        }
        bar = first;
        return 0;
    }

    long bars(int what) {
        if (bar == null || what < 0 || what > 2) {
            return -1;
        }
        return what == 0 ? bar.sort() : what == 1 ? bar.who() : bar.after();
    }

    List<Integer> moving(long net) {
        List<Change> all = new ArrayList<>(cuts(net));
        all.addAll(adds(net));
        List<Integer> found = new ArrayList<>();
        for (int pair = 0; pair < pairs(); pair++) {
            for (Change change : all) {
                if (change.after() == (net ^ 1L << pair) && !found.contains(pair)) {
                    found.add(pair);
                }
            }
        }
        return found;
    }

    int step(int seed) {
        if (seed < -1) {
            return -2;
        }
        List<Integer> moving = moving(net);
        if (moving.isEmpty()) {
            return -1;
        }
        long x = (1103515245L * seed + 12345) % 2147483648L;
        int pair = moving.get(seed == -1 ? 0 : (int) (x / 256 % moving.size()));
        net ^= 1L << pair;
        return pair;
    }

    /** All NETS on the way from one on. */
    List<Long> path(long from) {
        List<Long> path = new ArrayList<>(List.of(from));
        while (path.size() <= 200) {
            long last = path.get(path.size() - 1);
            if (moving(last).isEmpty()) {
                break;
            }
            long next = last ^ 1L << moving(last).get(0);
            boolean there = path.contains(next);
            path.add(next);
            if (there) {
                break;
            }
        }
        return path;
    }

    int go() {
        List<Long> path = path(net);
        net = path.get(path.size() - 1);
        int steps = path.size() - 1;
        int before = path.indexOf(net);
        if (before < steps) {
            ring = new long[] {steps - before, Collections.min(path.subList(before, steps))};
            return steps;
        }
        ring = new long[] {0, -1};
        return moving(net).isEmpty() ? steps : -1;
    }

    long ring(int what) {
        return ring == null || what < 0 || what > 1 ? -1 : ring[what];
    }

    // ---- few

    boolean few() {
        return n() >= 2 && n() <= 5;
    }

    List<Long> allAtRest(int kind) {
        List<Long> found = new ArrayList<>();
        for (long to = 0; to < 1L << pairs(); to++) {
            if (may(to) && firstBar(to, kind) == null) {
                found.add(to);
            }
        }
        return found;
    }

    List<List<Integer>> orders(int n) {
        List<List<Integer>> all = new ArrayList<>(List.of(List.of()));
        for (int p = 0; p < n; p++) {
            List<List<Integer>> longer = new ArrayList<>();
            for (List<Integer> order : all) {
                for (int i = 0; i <= order.size(); i++) {
                    List<Integer> next = new ArrayList<>(order);
                    next.add(i, p);
                    longer.add(next);
                }
            }
            all = longer;
        }
        return all;
    }

    long leastAlike(long net) {
        long least = Long.MAX_VALUE;
        for (List<Integer> order : orders(n())) {
            long same = 0;
            for (int pair = 0; pair < pairs(); pair++) {
                int[] e = ends(pair);
                same |= (net >> pair & 1) == 1 ? bit(order.get(e[0]), order.get(e[1])) : 0;
            }
            least = Math.min(least, same);
        }
        return least;
    }

    int all(int kind, boolean shapes) {
        if (!few() || kind < 0 || kind > 5) {
            return -1;
        }
        resting = allAtRest(kind);
        if (shapes) {
            TreeMap<Long, Long> least = new TreeMap<>();
            for (long net : resting) {
                least.putIfAbsent(leastAlike(net), net);
            }
            resting = new ArrayList<>(least.values());
            Collections.sort(resting);
        }
        return resting.size();
    }

    long one(int k) {
        return k < 0 || k >= resting.size() ? -1 : resting.get(k);
    }

    long best() {
        if (!few()) {
            return -1;
        }
        long found = 0;
        for (long to = 0; to < 1L << pairs(); to++) {
            found = may(to) && inAll(to) > inAll(found) ? to : found;
        }
        return found;
    }

    long loss(int kind, boolean worst) {
        if (!few() || kind < 0 || kind > 5) {
            return -1;
        }
        List<Long> worths = new ArrayList<>();
        for (long to : allAtRest(kind)) {
            worths.add(inAll(to));
        }
        return worths.isEmpty() ? -1 : inAll(best()) - (worst ? Collections.min(worths) : Collections.max(worths));
    }

    int coming() {
        if (!few()) {
            return -1;
        }
        arrived = new TreeMap<>();
        for (List<Integer> order : orders(n())) {
            long made = 0;
            for (int i = 0; i < n(); i++) {
                List<Integer> there = new ArrayList<>(order.subList(0, i));
                Collections.sort(there);
                for (int other : there) {
                    long to = made | bit(order.get(i), other);
                    if (adds(made).stream().anyMatch(change -> change.after() == to)) {
                        made = to;
                    }
                }
            }
            arrived.merge(made, 1, Integer::sum);
        }
        return arrived.size();
    }

    long comes(int k, boolean times) {
        if (k < 0 || k >= arrived.size()) {
            return -1;
        }
        long net = new ArrayList<>(arrived.keySet()).get(k);
        return times ? arrived.get(net) : net;
    }

    // ---- gifts, good ties, edges, lies

    /** What is passed, and HELP. */
    long[] giftsTo(int person, int pair) {
        int other = ends(pair)[0] + ends(pair)[1] - person;
        long cut = net & ~(1L << pair);
        long need = worth(cut, person) - worth(net, person);
        if (need <= 0) {
            return new long[2];
        }
        long loss = worth(net, other) - worth(cut, other);
        long passed = loss < 0 ? 0 : loss < need ? loss : need;
        return new long[] {passed, need - passed};
    }

    long gifts(int what) {
        if (what == 2) {
            return adds(net).isEmpty() ? 1 : 0;
        }
        if (what < 0 || what > 2) {
            return -1;
        }
        long sum = 0;
        for (int pair = 0; pair < pairs(); pair++) {
            for (int p : ends(pair)) {
                sum += (net >> pair & 1) == 1 ? giftsTo(p, pair)[what] : 0;
            }
        }
        return sum;
    }

    long gift(int person, int pair, boolean help) {
        if (pair < 0 || pair >= pairs() || (net >> pair & 1) == 0
                || Arrays.stream(ends(pair)).noneMatch(p -> p == person)) {
            return -1;
        }
        return giftsTo(person, pair)[help ? 1 : 0];
    }

    long good(boolean kept) {
        long found = 0;
        for (int pair = 0; pair < pairs(); pair++) {
            long to = net ^ 1L << pair;
            boolean tied = to < net;
            if (tied == kept && may(to) && inAll(to) > inAll(net) && !moving(net).contains(pair)) {
                found |= 1L << pair;
            }
        }
        return found;
    }

    int edge(int kind, int from, int to, boolean most) {
        if (kind < 0 || kind > 4 || n() > 6 || from < -1000 || to > 1000 || from > to || (long) to - from > 200) {
            return -1000000001;
        }
        int kept = extra;
        int found = -1000000000;
        for (extra = from; extra <= to; extra++) {
            if ((most || found == -1000000000) && firstBar(net, kind) == null) {
                found = extra;
            }
        }
        extra = kept;
        return found;
    }

    int lie(int person) {
        if (person < 0 || person >= n() || n() > 6) {
            return -1;
        }
        long most = Long.MIN_VALUE;
        int bestLie = -1;
        for (int lie = 0; lie <= 20; lie++) {
            lies[person] = lie;
            List<Long> path = path(0);
            long last = path.get(path.size() - 1);
            long reached = moving(last).isEmpty() ? last : 0;
            lies[person] = 0;
            if (worth(reached, person) > most) {
                most = worth(reached, person);
                bestLie = lie;
            }
        }
        lied = most;
        return bestLie;
    }

    long lied() {
        return lied;
    }

    // ---- images

    int image() {
        octets = new int[10];
        octets[0] = n();
        for (int i = 0; i < 6; i++) {
            octets[6 - i] = (int) (net >>> 8 * i & 255);
        }
        octets[7] = (extra + 1000) / 256;
        octets[8] = (extra + 1000) % 256;
        for (int i = 0; i < 9; i++) {
            octets[9] ^= octets[i];
        }
        return 10;
    }

    int octet(int k) {
        return octets == null || k < 0 || k > 9 ? -1 : octets[k];
    }

    boolean on() {
        List<Integer> bytes = new ArrayList<>(tape);
        tape.clear();
        if (bytes.size() != 10 || bytes.get(0) != n()) {
            return false;
        }
        int xor = 0;
        for (int i = 0; i < 9; i++) {
            xor ^= bytes.get(i);
        }
        long told = 0;
        for (int i = 1; i <= 6; i++) {
            told = told << 8 | bytes.get(i);
        }
        int toldExtra = bytes.get(7) * 256 + bytes.get(8) - 1000;
        if (xor != bytes.get(9) || toldExtra > 1000 || !isNet(told) || !may(told)) {
            return false;
        }
        net = told;
        extra = toldExtra;
        return true;
    }
}
