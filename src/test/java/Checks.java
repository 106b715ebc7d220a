/** What the tests share: counting wrong answers, and feeding texts. */
final class Checks {
    private int wrong;
    private int asked;
    /** What a sentence test says ahead of each wrong answer: where the sentence stands, and the sentence. */
    private String sentence = "";
    private int askedAhead;

    void due(String call, long got, long want) {
        asked++;
        if (got != want) {
            wrong++;
            System.out.println(sentence + call + " answered " + got + ", due is " + want);
        }
    }

    /** Begins the test of one sentence; the one ahead must have asked something. */
    void begin(String where, String quote) {
        endSentence();
        sentence = where + ", '" + quote + "': ";
        askedAhead = asked;
    }

    void endSentence() {
        if (!sentence.isEmpty() && asked == askedAhead) {
            due("asked nothing: it", 0, 1);
        }
        sentence = "";
    }

    void due(String call, boolean got, boolean want) {
        due(call, got ? 1 : 0, want ? 1 : 0);
    }

    void finish() {
        System.out.println(wrong == 0 ? asked + " answers are as due" : wrong + " of " + asked + " answers are not as due");
        if (wrong != 0) {
            System.exit(1);
        }
    }

    /** Puts bytes on the tape, behind what is there already (which must be whole feeds). */
    static void feed(TieStreet x, int already, int[] bytes) {
        for (int i = 0; i < bytes.length; i += 20) {
            int[] numbers = new int[5];
            for (int k = 0; k < 20; k++) {
                int b = i + k < bytes.length ? bytes[i + k] : 32;
                numbers[k / 4] = numbers[k / 4] << 8 | b;
            }
            x.feed(numbers[0], numbers[1], numbers[2], numbers[3], numbers[4]);
        }
        x.end(already + bytes.length);
    }

    static int[] bytesOf(String text) {
        int[] bytes = new int[text.length()];
        for (int i = 0; i < bytes.length; i++) {
            bytes[i] = text.charAt(i) & 255;
        }
        return bytes;
    }

    static int land(TieStreet x, String text) {
        feed(x, 0, bytesOf(text));
        return x.land();
    }

    /** A new object with a LAND that must be one. */
    TieStreet street(String text) {
        TieStreet x = new TieStreet();
        int statements = land(x, text);
        if (statements < 0) {
            due("land() of " + text + " (fault " + x.fault(0) + " at " + x.fault(1) + ")", statements, 0);
        }
        return x;
    }

    /** The text has this FAULT at this place (0: none, and then this many STATEMENTS). */
    void fault(String text, int fault, int placeOrStatements) {
        TieStreet x = new TieStreet();
        int got = land(x, text);
        due("land() of '" + text + "'", got, fault == 0 ? placeOrStatements : -1);
        due("fault(0) of '" + text + "'", x.fault(0), fault);
        due("fault(1) of '" + text + "'", x.fault(1), fault == 0 ? -1 : placeOrStatements);
    }
}
