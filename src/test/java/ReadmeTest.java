import java.io.IOException;
import java.nio.file.Files;
import java.nio.file.Path;

/** What README.md shows is so: its lines of code stand in this file, and what they answer is checked. */
public final class ReadmeTest {
    public static void main(String[] args) throws IOException {
        Checks c = new Checks();
        example(c);
        shown(c);
        named(c);
        c.finish();
    }

    static void put(TieStreet street, String text) {
        for (int i = 0; i < text.length(); i += 20) {
            int[] n = new int[5];
            for (int k = 0; k < 20; k++) {
                n[k / 4] = n[k / 4] << 8 | (i + k < text.length() ? text.charAt(i + k) : ' ');
            }
            street.feed(n[0], n[1], n[2], n[3], n[4]);
        }
        street.end(text.length());
    }

    private static void example(Checks c) {
        TieStreet street = new TieStreet();
        put(street, "who ann at 0; who bob at 10; who cy at 40; most ann 1;"
                + "cost 2 + miles / 10 when all; news 12 / ways when all;");
        int statements = street.land();
        c.due("land()", statements, 6);

        boolean taken = street.net(6);
        c.due("net(6)", taken, true);
        long toAnn = street.worth(0);
        c.due("worth(0)", toAnn, 12);
        long inAll = street.worth(TieStreet.NONE);
        c.due("worth(NONE)", inAll, 38);
        int far = street.ways(0, 1);
        c.due("ways(0, 1)", far, 2);

        int rests = street.rest(3);
        c.due("rest(3)", rests, 0);
        long sort = street.bars(0);
        c.due("bars(0)", sort, 3);
        long who = street.bars(1);
        c.due("bars(1)", who, 3);
        long then = street.bars(2);
        c.due("bars(2)", then, 5);

        street.net(0);
        int pair = street.step(TieStreet.NONE);
        c.due("step(NONE)", pair, 0);
        int steps = street.go();
        c.due("go()", steps, 1);
        long ring = street.ring(0);
        c.due("ring(0)", ring, 0);
        few(c, street);
    }

    private static void few(Checks c, TieStreet street) {
        int nets = street.all(1, false);
        c.due("all(1, false)", nets, 2);
        long second = street.one(1);
        c.due("one(1)", second, 6);
        long best = street.best();
        c.due("best()", best, 5);
        long loss = street.loss(1, true);
        c.due("loss(1, true)", loss, 6);
        int come = street.coming();
        c.due("coming()", come, 2);
        long orders = street.comes(0, true);
        c.due("comes(0, true)", orders, 4);

        int edge = street.edge(1, 0, 100, true);
        c.due("edge(1, 0, 100, true)", edge, 7);
        int lie = street.lie(1);
        c.due("lie(1)", lie, 0);
        street.extra(8);
        long passed = street.gifts(0);
        c.due("gifts(0)", passed, 1);
        long help = street.gifts(1);
        c.due("gifts(1)", help, 0);
        long kept = street.good(true);
        c.due("good(true)", kept, 0);

        int bytes = street.image();
        c.due("image()", bytes, 10);
        int first = street.octet(0);
        c.due("octet(0)", first, 3);
    }

    /** A line that tells an answer (// and a number behind it) has its check here right below it. */
    private static void shown(Checks c) throws IOException {
        String[] own = Files.readString(Path.of("src/test/java/ReadmeTest.java")).split("\n");
        boolean code = false;
        for (String line : Files.readString(Path.of("README.md")).split("\n")) {
            if (line.startsWith("```")) {
                code = line.equals("```java");
            } else if (code && !line.isBlank() && !line.trim().startsWith("//")) {
                int at = line.indexOf("  //");
                String told = at < 0 ? "" : line.substring(at + 4).trim().split("[:;, ]")[0];
                c.due("README.md: " + line, stands(own, (at < 0 ? line : line.substring(0, at)).trim(), told), true);
            }
        }
    }

    private static boolean stands(String[] own, String line, String told) {
        for (int i = 0; i + 1 < own.length; i++) {
            if (own[i].trim().equals(line) && (told.isEmpty() || own[i + 1].trim().endsWith(", " + told + ");"))) {
                return true;
            }
        }
        return false;
    }

    /** README.md names every call of the face. */
    private static void named(Checks c) throws IOException {
        String text = Files.readString(Path.of("README.md"));
        for (var method : TieStreet.class.getDeclaredMethods()) {
            if (java.lang.reflect.Modifier.isPublic(method.getModifiers())) {
                c.due("README.md names " + method.getName(), text.contains("`" + method.getName() + "`"), true);
            }
        }
    }
}
