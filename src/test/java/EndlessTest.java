import java.util.Random;

/** LANGUAGE.md, rule 7: no call throws or fails to end, whatever comes; and the same calls give the same answers. */
public final class EndlessTest {
    private static final String[] PIECES = {"(", ")", "'", " . ", " ", "\n", ";", "defun ", "defthm ", "prove ", "check ",
        "simplify ", "eval ", "undo", "on ", "off ", "induct ", "use ", "f ", "g ", "x ", "y ", "nil ", "t ", "5 ", "car ",
        "cons ", "if ", "equal ", "not ", "implies ", "(consp x) ", "(cdr x) ", "(+ 1 x) ", "(height x)", "taut ", "same ",
        "put ", "swap ", "inst ", "cut ", "weak ", "(x 1)", "4611686018427387903 ", "A", "\u00ff",
        "(defun f (x) (if (consp x) (f (cdr x)) x) (height x))", "(prove (equal (f x) x) (induct (f x)))"};

    private static final String[] ENDS = {"car", "cdr", "height", "consp"};

    public static void main(String[] args) {
        for (int seed = 0; seed < 60; seed++) {
            long first = wild(new Random(seed), new ProofHouse());
            long second = wild(new Random(seed), new ProofHouse());
            Tester.same("the answers of seed " + seed, second, first);
        }
        dearCommand();
        dearProof();
        muchIsTaken();
        Tester.finish();
    }

    /** Two thousand calls of all sorts: a number that tells their answers. */
    private static long wild(Random random, ProofHouse house) {
        long told = 0;
        for (int call = 0; call < 2000; call++) {
            told = told * 31 + answer(random, house);
        }
        return told;
    }

    private static long answer(Random random, ProofHouse house) {
        int any = random.nextInt(4) == 0 ? random.nextInt() : random.nextInt(24) - 2;
        switch (random.nextInt(12)) {
            case 0:
                house.feed(random.nextInt(), random.nextInt(), any, random.nextInt(), random.nextInt());
                return 0;
            case 1:
                return house.end(any);
            case 2:
                return house.fuel(any * 50);
            case 3:
                return house.fault(any);
            case 4:
                return house.count(any);
            case 5:
                return house.letter(any);
            case 6:
                return house.taken(any) * 100L + house.tell(any);
            case 7:
                return house.recheck() ? 1 : 0;
            default:
                pieces(random, house);
                return house.run() * 10000L + house.steps() + house.size();
        }
    }

    private static void pieces(Random random, ProofHouse house) {
        StringBuilder text = new StringBuilder(random.nextInt(3) == 0 ? "" : "(");
        int n = random.nextInt(30);
        for (int k = 0; k < n; k++) {
            text.append(PIECES[random.nextInt(PIECES.length)]);
        }
        for (int at = 0; at < text.length(); at += 20) {
            int[] words = new int[5];
            int m = Math.min(20, text.length() - at);
            for (int k = 0; k < m; k++) {
                words[k / 4] |= (text.charAt(at + k) & 255) << 24 - k % 4 * 8;
            }
            house.feed(words[0], words[1], words[2], words[3], words[4]);
            house.end(m);
        }
    }

    /** Nearly the most that 512 calls can make in one command: each HYPOTHESIS is a great instance, asked in three STEPS. */
    private static void dearCommand() {
        Tester t = new Tester();
        Random random = new Random(1);
        t.done("(defun g (x) x)").done("(defun h (x) x)").done("(defun f (x) 1)");
        for (int k = 0; k < 9; k++) {
            String great = "(cons " + chain(random, 33) + " (cons " + chain(random, 33) + " " + chain(random, 33) + "))";
            t.done("(defthm a" + k + " (implies (if t nil " + great + ") (equal (f x) 1)))");
        }
        StringBuilder calls = new StringBuilder("nil");
        for (int k = 0; k < 24; k++) {
            calls.insert(0, "(cons (f v" + k + ") ").append(')');
        }
        // Each (f v): f, v, nine times a match and its HYPOTHESIS, and the body.
        t.due("(simplify " + calls + ")", 0, "'(" + "1 ".repeat(23) + "1)", 24 + 1 + 24 * (2 + 9 * 4 + 1));
    }

    /** Nearly the most that 1000 words can make: each inst makes all of a clause anew whose SIZES are 400 together. */
    private static void dearProof() {
        Tester t = new Tester();
        Random random = new Random(2);
        t.done("(defun g (x) x)").done("(defun h (x) x)");
        String all = "";
        for (int k = 0; k < 4; k++) {
            int depth = k < 3 ? 27 : 9;
            StringBuilder tree = new StringBuilder("(cons (cons A B) (cons C D))");
            for (char place = 'A'; place <= 'D'; place++) {
                // No two of the chains begin alike, or they would share their ends.
                String end = "(" + ENDS[k] + " (" + ENDS[place - 'A'] + " x))";
                int at = tree.indexOf(String.valueOf(place));
                tree.replace(at, at + 1, chain(random, depth - 2).replace("x", end));
            }
            t.done("(defthm t" + k + " (if t t " + tree + "))");
            String one = "(thm t" + k + ")";
            all = k == 0 ? one : "(cut y (weak (y) " + all + ") (weak ((not y)) " + one + "))";
        }
        String proof = instances(all, 0);
        for (int row = 1; row <= 3; row++) {
            proof = "(cut y " + instances(all, row) + " " + proof + ")";
        }
        // The innermost cut is wrong, its first part doesn't have y.
        String wrong = proof.substring(proof.lastIndexOf("(cut y (inst"), proof.length() - 2);
        t.due("(check a t " + proof + ")", 7, wrong, 4 * (23 + 13) + 3);
    }

    private static String instances(String proof, int row) {
        String made = proof;
        String before = "x";
        for (int k = 0; k < 23; k++) {
            String next = "v" + row + (char) ('a' + k);
            made = "(inst " + made + " (" + before + " " + next + "))";
            before = next;
        }
        return made;
    }

    private static String chain(Random random, int depth) {
        String chain = "x";
        for (int k = 0; k < depth; k++) {
            chain = (random.nextBoolean() ? "(g " : "(h ") + chain + ")";
        }
        return chain;
    }

    /** More than 512 calls can bring: all entries with long texts, again and again. */
    private static void muchIsTaken() {
        Tester t = new Tester();
        int answers = 0;
        for (int k = 0; k < 120; k++) {
            StringBuilder list = new StringBuilder();
            for (int i = 0; i < 480; i++) {
                list.append('s').append(Integer.toString(k * 480 + i, 36)).append(' ');
            }
            answers += t.run("(defun f" + k + " () '(" + list + "))") == 0 ? 1 : 0;
            answers += t.run("(defthm t" + k + " (equal '(" + list + ") '(" + list.substring(0, 3) + "))") == 0 ? 1 : 0;
            t.run("(check c" + k + " (equal x x) (weak ('(" + list + ")) (same x)))");
            t.house.recheck();
            t.house.tell(k);
        }
        Tester.same("some were taken", answers > 20, true);
        Tester.same("and it still ends", t.run("(undo)") == 0, true);
    }
}
