import java.nio.charset.StandardCharsets;

/** What the tests share: texts go in, OUT comes back as a text, and answers that are not due are told. */
final class Tester {
    private static int wrong = 0;
    private static int asked = 0;
    private static int sentences = 0;
    private static String sentence = "";

    final ProofHouse house = new ProofHouse();

    /** Feeds the text in pieces of twenty bytes, without a run. */
    Tester feed(String text) {
        feed(text.getBytes(StandardCharsets.ISO_8859_1));
        return this;
    }

    void feed(byte[] bytes) {
        for (int at = 0; at < bytes.length; at += 20) {
            int n = Math.min(20, bytes.length - at);
            int[] words = new int[5];
            for (int k = 0; k < n; k++) {
                words[k / 4] |= (bytes[at + k] & 255) << 24 - k % 4 * 8;
            }
            house.feed(words[0], words[1], words[2], words[3], words[4]);
            house.end(n);
        }
    }

    int run(String text) {
        feed(text);
        return house.run();
    }

    String out() {
        StringBuilder out = new StringBuilder();
        for (int k = 0; k < house.size(); k++) {
            out.append((char) house.letter(k));
        }
        return out.toString();
    }

    /** Runs the text; the ANSWER and OUT are due. */
    Tester due(String text, int answer, String out) {
        int got = run(text);
        same(text + " answers", got, answer);
        same(text + " tells", out(), out);
        return this;
    }

    /** Runs the text; the ANSWER, OUT and the STEPS are due. */
    Tester due(String text, int answer, String out, int steps) {
        due(text, answer, out);
        same(text + " makes STEPS", house.steps(), steps);
        return this;
    }

    /** Runs the text; it is due that it is done, and OUT is empty. */
    Tester done(String text) {
        return due(text, 0, "");
    }

    /** Runs the text; the FAULT of READING and its place are due. */
    Tester unread(String text, int fault, int place) {
        due(text, 1, "");
        same(text + " has the FAULT", house.fault(0), fault);
        same(text + " has it at", house.fault(1), place);
        return this;
    }

    /** Runs the text; the FAULT OF WORK is due, and the STEPS made up to it. */
    Tester unworked(String text, int fault, int steps) {
        due(text, 4, "", steps);
        same(text + " has the FAULT OF WORK", house.fault(2), fault);
        return this;
    }

    /** Names the document's sentence that is asked from here on. */
    static void sentence(String where, String words) {
        sentences++;
        sentence = where + ", '" + words + "': ";
    }

    static void same(String what, Object got, Object due) {
        asked++;
        if (!got.equals(due)) {
            wrong++;
            System.out.println(sentence + shortened(what) + ": " + got + ", due is " + due);
        }
    }

    private static String shortened(String text) {
        return text.length() <= 300 ? text : text.substring(0, 200) + " .. " + text.substring(text.length() - 80);
    }

    /** Ends a test's main method. */
    static void finish() {
        String named = sentences == 0 ? "" : ", of " + sentences + " sentences";
        System.out.println(asked - wrong + " of " + asked + " answers are as due" + named);
        if (wrong != 0 || asked == 0) {
            System.exit(1);
        }
    }
}
