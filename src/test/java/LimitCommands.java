import java.util.ArrayList;
import java.util.List;
import java.util.Random;

/** Random commands whose terms and clauses come near the limits: SIZES of 120 and 400, 30 literals, depth and FUEL. */
final class LimitCommands {
    private static final String[] DEFINITIONS = {
        "(defun q (x) (if (consp x) (q (car x)) t) (height x))",
        "(defun len (x) (if (consp x) (+ 1 (len (cdr x))) 0) (height x))",
        "(defun i (x) x)",
        "(defun w (x) (cons x (cons x x)))",
        "(defun z (x y) (if (consp x) (z (cdr x) (cons y y)) nil) (height x))"};
    private static final String[] THEOREMS = {
        "(defthm a (q x) (induct (q x)))",
        "(defthm e (equal x x))",
        "(defthm i (equal (i x) x))",
        "(defthm h (implies (if (q x) (natp (len y)) nil) (equal (z x y) (z x y))))",
        "(defthm b (implies (if (q x) y nil) y))",
        "(defthm c (if x t t))"};

    private final Random random;
    private final Model model;
    private int begun = 0;

    LimitCommands(Random random, Model model) {
        this.random = random;
        this.model = model;
    }

    String next() {
        begun++;
        if (begun <= DEFINITIONS.length) {
            return DEFINITIONS[begun - 1];
        }
        if (begun <= DEFINITIONS.length + THEOREMS.length) {
            return THEOREMS[begun - 1 - DEFINITIONS.length];
        }
        if (begun == DEFINITIONS.length + THEOREMS.length + 1) {
            return "(defun g (y z) " + sized(10 + random.nextInt(105), "y", "z") + ")";
        }
        switch (random.nextInt(12)) {
            case 0:
                return "(defun g" + random.nextInt(3) + " (y z) " + sized(10 + random.nextInt(112), "y", "z") + ")";
            case 1:
                return "(defthm n" + begun + " " + sized(30 + random.nextInt(92), "x", "y") + hints() + ")";
            case 2:
                return model.entries.size() > DEFINITIONS.length + THEOREMS.length ? "(undo)" : "(eval (len '(1 2)))";
            case 3:
            case 4:
            case 5:
            case 6:
                return "(prove " + goal() + hints() + ")";
            case 7:
                return "(simplify " + sized(60 + random.nextInt(62), "x", "y") + ")";
            default:
                return "(check n" + begun + " x " + shortProof() + ")";
        }
    }

    /** One that, most likely, has no more than 1000 words. */
    private String shortProof() {
        String proof = proof(1 + random.nextInt(5));
        for (int turn = 0; turn < 20 && proof.length() > 2000; turn++) {
            proof = proof(1 + random.nextInt(5));
        }
        return proof;
    }

    private String one(String... of) {
        return of[random.nextInt(of.length)];
    }

    private String variable() {
        return one("v", "x", "y", "u") + (random.nextBoolean() ? "" : "" + random.nextInt(6));
    }

    private String goal() {
        switch (random.nextInt(4)) {
            case 0:
                return "(equal p p)";
            case 1:
                return sized(1 + random.nextInt(20), "x", "p");
            case 2:
                return "(if " + sized(1 + random.nextInt(20), "x", "p") + " (equal p p) " + variable() + ")";
            default:
                return "(implies " + grown() + " " + grown() + ")";
        }
    }

    /** A short term that comes out as a long one. */
    private String grown() {
        List<String> wide = new ArrayList<>();
        model.functions.forEach((name, function) -> {
            if (name.startsWith("g")) {
                wide.add(name);
            }
        });
        if (wide.isEmpty() || random.nextInt(5) == 0) {
            return "(w (w " + variable() + "))";
        }
        String inner = random.nextInt(4) == 0 ? "(w " + variable() + ")" : variable();
        return "(" + wide.get(random.nextInt(wide.size())) + " " + inner + " " + variable() + ")";
    }

    private String hints() {
        StringBuilder told = new StringBuilder();
        for (int k = random.nextInt(9); k > 0; k--) {
            String theorem = one("a", "a", "a", "b", "c", "i", "e");
            told.append(" (use ").append(theorem).append(random.nextInt(6) == 0 ? "" : " (x " + grown() + ")").append(')');
        }
        if (random.nextInt(3) > 0) {
            told.append(" (off a)");
        }
        return told.append(random.nextInt(6) == 0 ? " (induct (" + one("q", "len") + " x))" : "").toString();
    }

    /** A term of so great a SIZE, most of it calls that stay as they are. */
    private String sized(int size, String... variables) {
        if (size == 1) {
            return random.nextInt(12) == 0 ? one("nil", "1", "'(a)") : one(variables);
        }
        // Halves instead of chains, so that the brackets stay shallow enough for a text.
        int sort = size > 16 ? 6 + random.nextInt(4) : random.nextInt(10);
        if (size == 2 || sort < 5) {
            return "(" + one("q", "len", "len", "car", "cdr", "not", "i") + " " + sized(size - 1, variables) + ")";
        }
        if (size > 4 && sort == 5) {
            int first = 1 + random.nextInt(2);
            int second = 1 + random.nextInt(size - 2 - first);
            return "(if " + sized(first, variables) + " " + sized(second, variables) + " "
                    + sized(size - 1 - first - second, variables) + ")";
        }
        int first = size > 16 ? size / 2 - random.nextInt(4) : 1 + random.nextInt(size - 2);
        return "(" + one("cons", "equal", "+", "z", "<") + " " + sized(first, variables) + " "
                + sized(size - 1 - first, variables) + ")";
    }

    private String literals(int count) {
        StringBuilder told = new StringBuilder();
        int size = random.nextInt(3) == 0 ? 200 / Math.max(1, count) + random.nextInt(20) : 1;
        for (int k = 0; k < count; k++) {
            String literal = size == 1 ? variable() : sized(Math.max(1, Math.min(120, size)), "x", "y", "u");
            told.append(' ').append(random.nextInt(4) == 0 ? "(not " + literal + ")" : literal);
        }
        return told.toString();
    }

    private String leaf() {
        switch (random.nextInt(7)) {
            case 0:
                return "(same " + sized(50 + random.nextInt(12), "x", "y") + ")";
            case 1:
                return "(taut " + sized(110 + random.nextInt(11), "x", "y") + ")";
            case 2:
                return "(yes " + sized(30, "x", "y") + " " + sized(20 + random.nextInt(10), "x") + " y)";
            case 3:
                return "(def " + one("g", "q", "g1", "no") + ")";
            case 4:
                return "(thm " + one("a", "e", "b", "no", "h") + ")";
            case 5:
                return "(taut (equal " + variable() + " " + sized(1 + random.nextInt(30), "x", "y") + "))";
            default:
                return "(same " + variable() + ")";
        }
    }

    private String proof(int depth) {
        if (depth == 0) {
            return leaf();
        }
        String p = proof(depth - 1);
        switch (random.nextInt(8)) {
            case 0:
            case 1:
                return "(weak (" + literals(1 + random.nextInt(20)) + ") " + p + ")";
            case 2:
            case 3:
                String literal = random.nextInt(3) == 0 ? sized(90 + random.nextInt(31), "x", "y") : variable();
                String left = random.nextInt(6) == 0 ? literals(16) : literals(random.nextInt(14)) + " " + literal;
                String right = random.nextInt(6) == 0 ? literals(16) : literals(random.nextInt(14)) + " (not " + literal + ")";
                return "(cut " + literal + " (weak (" + left + ") " + p + ") (weak (" + right + ") " + proof(depth / 2) + "))";
            case 4:
                return "(inst " + p + " (x " + sized(1 + random.nextInt(6), "x", "y", "u") + ") (" + one("y", "u", "x") + " "
                        + variable() + "))";
            case 5:
                return "(swap " + p + ")";
            case 6:
                return "(put " + (random.nextBoolean() ? leaf() : p) + " " + proof(depth - 1) + ")";
            default:
                String same = "(equal " + sized(1 + random.nextInt(58), "x", "y") + " x)";
                return "(induct " + same + " (" + one("q", "len") + " x) (weak (" + same + ") " + leaf() + ") " + p + ")";
        }
    }
}
