/** Promises 5 to 8 of check: PROOFS told rule by rule, and the clause that each has. */
public final class CheckTest {
    public static void main(String[] args) {
        axioms();
        wrongForms();
        definitionsAndTheorems();
        weak();
        cut();
        inst();
        swap();
        put();
        induct();
        order();
        wholeProof();
        limits();
        manyParts();
        Tester.finish();
    }

    /** The clause of a PROOF, seen where it is not that of the formula; the formula is one that no PROOF here has. */
    private static void clause(Tester t, String proof, String told, int steps) {
        t.due("(check new (equal zz zz) " + proof + ")", 7, told, steps);
    }

    /** The PROOF is wrong, and the part in which it is. */
    private static void wrong(Tester t, String proof, String part, int steps) {
        t.due("(check new (equal zz zz) " + proof + ")", 7, part, steps);
    }

    private static void axioms() {
        Tester t = new Tester();
        clause(t, "(taut x)", "(x (not x))", 1);
        clause(t, "(taut (not x))", "((not x) x)", 1);
        clause(t, "(taut nil)", "(nil t)", 1);
        clause(t, "(taut '5)", "(5 nil)", 1);
        clause(t, "(same (car x))", "((equal (car x) (car x)))", 1);
        clause(t, "(value (+ 1 2))", "((equal (+ 1 2) 3))", 1);
        clause(t, "(value (cons 'a '2))", "((equal (cons 'a 2) '(a . 2)))", 1);
        clause(t, "(value (if nil 1 2))", "((equal (if nil 1 2) 2))", 1);
        clause(t, "(value (if 'a 1 2))", "((equal (if 'a 1 2) 1))", 1);
        clause(t, "(value (implies nil nil))", "((equal (implies nil nil) t))", 1);
        clause(t, "(value (not 1))", "((equal (not 1) nil))", 1);
        clause(t, "(value (height '(a)))", "((equal (height '(a)) 1))", 1);
        clause(t, "(first x y)", "((equal (car (cons x y)) x))", 1);
        clause(t, "(second x y)", "((equal (cdr (cons x y)) y))", 1);
        clause(t, "(pair x y)", "((consp (cons x y)))", 1);
        clause(t, "(yes x y z)", "((not x) (equal (if x y z) y))", 1);
        clause(t, "(yes (not x) y z)", "(x (equal (if (not x) y z) y))", 1);
        clause(t, "(no x y z)", "(x (equal (if x y z) z))", 1);
        t.due("(check a (equal x x) (same x))", 0, "", 1);
        t.due("(check b (consp (cons 1 y)) (pair 1 y))", 0, "", 1);
        Tester.same("taken", t.house.taken(0), 3);
        Tester.same("theorems", t.house.count(1), 2);
        Tester.same("RULES", t.house.count(2), 1);
        Tester.same("recheck", t.house.recheck(), false);
    }

    private static void wrongForms() {
        Tester t = new Tester();
        t.done("(defun f (x) 1)");
        for (String proof : new String[] {"x", "5", "nil", "'x", "(taut)", "(taut x y)", "(taut . x)", "(taut x . y)",
            "(taut (foo))", "(same)", "(same x y)", "(same (car))", "(value)", "(value x)", "(value 5)", "(value '(+ 1 2))",
            "(value (+ 1 x))", "(value (f 1))", "(value (+ 4611686018427387903 1))", "(value (+ 1 (+ 1 1)))",
            "(first x)", "(first x y z)", "(second x)", "(pair x)", "(pair (foo) x)", "(pair x (foo))", "(yes x y)",
            "(yes x y z w)", "(no x y (foo))", "(def)", "(def g)", "(def car)", "(def 5)", "(def f f)", "(thm)", "(thm no)",
            "(thm 5)", "(weak)", "(weak nil (same x) (same y))", "(cut x (same x))", "(inst)", "(swap)", "(put (same x))",
            "(induct x)", "(foo x)", "((taut) x)", "(theorem f)", "(eval 1)", "(quote x)"}) {
            String told = proof.equals("nil") ? "nil" : proof.equals("(quote x)") ? "'x" : proof;
            wrong(t, proof, told, 1);
        }
        // Told as it was read, its terms not changed.
        wrong(t, "(value '5)", "(value '5)", 1);
        wrong(t, "(thm   no )", "(thm no)", 1);
        // The command's own form comes ahead of the PROOF.
        t.due("(check)", 2, "").due("(check a)", 2, "").due("(check a t)", 2, "").due("(check a t (same x) 1)", 2, "");
        t.due("(check 5 t (same x))", 2, "").due("(check car t (same x))", 2, "").due("(check a (foo) (same x))", 2, "");
        t.done("(defthm a t)").due("(check a t (foo))", 3, "", 0);
        Tester.same("theorems", t.house.count(1), 1);
    }

    private static void definitionsAndTheorems() {
        Tester t = new Tester();
        t.done("(defun f (x y) (cons y '5))").done("(defun k () 'a)").done("(defthm a (equal (f x 1) '(1 . 5)))");
        clause(t, "(def f)", "((equal (f x y) (cons y 5)))", 1);
        clause(t, "(def k)", "((equal (k) 'a))", 1);
        clause(t, "(thm a)", "((equal (f x 1) '(1 . 5)))", 1);
        t.due("(check b (equal (f x y) (cons y 5)) (def f))", 0, "", 1);
        clause(t, "(thm b)", "((equal (f x y) (cons y 5)))", 1);
        t.done("(undo)");
        wrong(t, "(thm b)", "(thm b)", 1);
    }

    private static void weak() {
        Tester t = new Tester();
        clause(t, "(weak (y '3 x) (taut x))", "(x (not x) y 3)", 2);
        clause(t, "(weak () (taut x))", "(x (not x))", 2);
        clause(t, "(weak nil (taut x))", "(x (not x))", 2);
        wrong(t, "(weak x (taut x))", "(weak x (taut x))", 1);
        wrong(t, "(weak (x . y) (taut x))", "(weak (x . y) (taut x))", 1);
        wrong(t, "(weak ((foo)) (taut x))", "(weak ((foo)) (taut x))", 1);
        wrong(t, "(weak (x) (taut))", "(taut)", 2);
    }

    private static void cut() {
        Tester t = new Tester();
        clause(t, "(cut x (weak (x y) (same a)) (weak (z (not x)) (same b)))",
                "((equal a a) y (equal b b) z)", 5);
        clause(t, "(cut (not x) (taut x) (taut x))", "(x (not x))", 3);
        clause(t, "(cut x (taut x) (taut x))", "((not x) x)", 3);
        // The others of P may have NOT L, those of Q L: only what is told goes.
        clause(t, "(cut nil (taut nil) (taut t))", "(t nil)", 3);
        wrong(t, "(cut y (taut x) (taut x))", "(cut y (taut x) (taut x))", 3);
        wrong(t, "(cut x (taut x) (same x))", "(cut x (taut x) (same x))", 3);
        wrong(t, "(cut x (same x) (taut x))", "(cut x (same x) (taut x))", 3);
        wrong(t, "(cut (foo) (taut x) (taut x))", "(cut (foo) (taut x) (taut x))", 1);
        wrong(t, "(cut x (taut x) (taut))", "(taut)", 3);
        wrong(t, "(cut x (taut) (foo))", "(taut)", 2);
    }

    private static void inst() {
        Tester t = new Tester();
        clause(t, "(inst (taut (cons x y)) (x y) (y x))", "((cons y x) (not (cons y x)))", 2);
        clause(t, "(inst (same x))", "((equal x x))", 2);
        clause(t, "(inst (weak (x y z) (same 1)) (x z) (y '5))", "((equal 1 1) z 5)", 3);
        clause(t, "(inst (same 'x) (x y))", "((equal 'x 'x))", 2);
        clause(t, "(inst (same x) (q 1))", "((equal x x))", 2);
        for (String pair : new String[] {"x", "(x)", "(x 1 2)", "(5 1)", "(nil 1)", "(x (foo))", "(x 1) (x 1)", "(x . 1)"}) {
            wrong(t, "(inst (foo) " + pair + ")", "(inst (foo) " + pair + ")", 1);
        }
        wrong(t, "(inst (foo) (x 1))", "(foo)", 2);
    }

    private static void swap() {
        Tester t = new Tester();
        clause(t, "(swap (first x y))", "((equal x (car (cons x y))))", 2);
        clause(t, "(swap (weak (a b) (first x y)))", "((equal x (car (cons x y))) a b)", 3);
        clause(t, "(swap (weak ((equal x 5)) (taut (equal 5 x))))", "((equal x 5) (not (equal 5 x)))", 3);
        wrong(t, "(swap (pair x y))", "(swap (pair x y))", 2);
        wrong(t, "(swap (yes x y z))", "(swap (yes x y z))", 2);
        wrong(t, "(swap (foo))", "(foo)", 2);
    }

    private static void put() {
        Tester t = new Tester();
        clause(t, "(put (first x y) (weak ((car (cons x y))) (same x)))", "((equal x x) x)", 4);
        clause(t, "(put (swap (first x y)) (taut x))",
                "((car (cons x y)) (not (car (cons x y))))", 4);
        // Not within what was put, nor within a constant, nor as a function's name.
        clause(t, "(put (swap (first x y)) (taut (cons 'x x)))",
                "((cons 'x (car (cons x y))) (not (cons 'x (car (cons x y)))))", 4);
        clause(t, "(put (weak (a) (value (+ 1 1))) (weak (b) (same (cons (+ 1 1) 2))))",
                "((equal (cons 2 2) (cons 2 2)) b a)", 5);
        clause(t, "(put (weak (a) (swap (value (+ 1 1)))) (same 2))", "((equal (+ 1 1) (+ 1 1)) a)", 5);
        wrong(t, "(put (pair x y) (same x))", "(put (pair x y) (same x))", 3);
        wrong(t, "(put (pair x y) (foo))", "(foo)", 3);
    }

    private static void induct() {
        Tester t = new Tester();
        t.done("(defun len (x) (if (consp x) (+ 1 (len (cdr x))) 0) (height x))").done("(defun f (x) 1)");
        // The clauses: (not (consp v)), NOT F with (cdr v) for v, F; and (consp v), F.
        clause(t, "(induct (equal v v) (len v) (same v) (same v))", "((equal v v))", 3);
        wrong(t, "(induct v (len v) (weak nil (taut v)) (taut v))", "(induct v (len v) (weak nil (taut v)) (taut v))", 4);
        wrong(t, "(induct (equal v v) (len v))", "(induct (equal v v) (len v))", 1);
        // Each literal that the clause of its PATH has may stand in a part's, in any order, and no other.
        String f = "(equal v v)";
        clause(t, "(induct " + f + " (len v) (weak ((not (equal (cdr v) (cdr v))) (not (consp v))) (same v)) (same v))",
                "(" + f + ")", 4);
        clause(t, "(induct " + f + " (len v) (same v) (weak ((consp v)) (same v)))", "(" + f + ")", 4);
        for (String part : new String[] {"(weak ((consp v)) (same v))", "(weak ((not (equal v v))) (same v))",
            "(same (cdr v))", "(weak (v) (same v))"}) {
            String proof = "(induct " + f + " (len v) " + part + " (same v))";
            wrong(t, proof, proof, part.startsWith("(weak") ? 4 : 3);
        }
        String second = "(induct " + f + " (len v) (same v) (weak ((not (consp v))) (same v)))";
        wrong(t, second, second, 4);
        for (String head : new String[] {"(foo) (len v)", "v len", "v (len)", "v (len v v)", "v (len 5)", "v (f v)",
            "v (car v)", "v (no v)", "v (len nil)", "v (len v u)"}) {
            wrong(t, "(induct " + head + " (same v) (same v))", "(induct " + head + " (same v) (same v))", 1);
        }
        wrong(t, "(induct v (len v) (same v))", "(induct v (len v) (same v))", 1);
        wrong(t, "(induct v (len v) (same v) (same v) (same v))", "(induct v (len v) (same v) (same v) (same v))", 1);
        wrong(t, "(induct v (len v) (same v) (foo))", "(foo)", 3);
    }

    private static void order() {
        Tester t = new Tester();
        // The form comes ahead of the parts, the parts from the left, what is told of their clauses last.
        wrong(t, "(put (foo 1) (foo 2))", "(foo 1)", 2);
        wrong(t, "(put (same 1) (foo 2))", "(foo 2)", 3);
        wrong(t, "(weak (x . 1) (foo 2))", "(weak (x . 1) (foo 2))", 1);
        wrong(t, "(swap (swap (swap (pair 1 2))))", "(swap (pair 1 2))", 4);
    }

    /** len of a list of one, from the definition alone. */
    private static void wholeProof() {
        Tester t = new Tester();
        t.done("(defun one (x) (cons x nil))");
        t.due("(check a (equal (car (one x)) x) (put (swap (def one)) (first x nil)))", 0, "", 4);
        t.due("(check b (consp (one x)) (put (swap (def one)) (pair x nil)))", 0, "", 4);
        t.due("(simplify (cons (car (one y)) (consp (one z))))", 0, "(cons y t)");
        Tester.same("taken", t.house.taken(1) * 10 + t.house.taken(2), 33);
        Tester.same("RULES", t.house.count(3), 2);
        t.done("(defun len (x) (if (consp x) (+ 1 (len (cdr x))) 0) (height x))");
        // (equal (len v) (len v)) by induction, each PATH by sameness.
        t.due("(check c (equal (len v) (len v)) (induct (equal (len v) (len v)) (len v)"
                + " (weak ((not (consp v))) (same (len v))) (weak ((consp v)) (same (len v)))))", 0, "", 5);
        // (len nil) is (if (consp nil) .. 0), that is 0 or (consp nil) holds; but (not (consp nil)), since (not nil).
        String zero = "(put (cut (consp nil) (no (consp nil) (+ 1 (len (cdr nil))) 0) (taut (consp nil)))"
                + " (inst (def len) (x nil)))";
        t.due("(check d (equal (len nil) 0) " + zero + ")", 7, "((equal (len nil) 0) (consp nil))", 6);
        String truth = "(put (value (equal 1 1)) (same 1))";
        String notNil = "(put (swap (value (not nil))) " + truth + ")";
        String noPair = "(put (swap (value (consp nil))) " + notNil + ")";
        t.due("(check d (equal (len nil) 0) (cut (consp nil) " + zero + " " + noPair + "))", 0, "", 1 + 6 + 3 + 3 + 3);
        // Less than F alone does as well: but F itself can't be left out, since no PROOF has an empty clause.
        t.due("(check e t " + truth + ")", 0, "", 3);
    }

    private static void limits() {
        Tester t = new Tester();
        String sixty = "(cons x ".repeat(29) + "(car x)" + ")".repeat(29);
        // (equal L L) has a SIZE of 123; one of 119 isn't TOO BIG.
        t.unworked("(check a t (same " + sixty.replace("(car x)", "(car (car x))") + "))", 4, 1);
        String fiftyNine = "(cons x ".repeat(29) + "x" + ")".repeat(29);
        clause(t, "(same " + fiftyNine + ")", "((equal " + fiftyNine + " " + fiftyNine + "))", 1);
        t.unworked("(check a t (inst (same (cons x x)) (x " + fiftyNine + ")))", 4, 2);
        StringBuilder terms = new StringBuilder();
        for (int k = 0; k < 30; k++) {
            terms.append("v").append(k).append(' ');
        }
        t.unworked("(check a t (weak (" + terms + ") (same x)))", 4, 2);
        clause(t, "(weak (" + terms.substring(3) + ") (same x))",
                "((equal x x) " + terms.substring(3).trim() + ")", 2);
        // SIZES of 400 together, with the (equal x x), and of 401.
        String heavy = "(cons v ".repeat(35) + "v" + ")".repeat(35);
        StringBuilder most = new StringBuilder();
        for (int k = 0; k < 5; k++) {
            most.append(heavy.replace("v", "v" + k)).append(' ');
        }
        most.append("(cons v ".repeat(20)).append("v").append(")".repeat(20)).append(" a ");
        Tester.same("SIZES of 400", t.run("(check a t (weak (" + most + ") (same x)))"), 7);
        t.unworked("(check a t (weak (" + most + "b) (same x)))", 4, 2);
        // What is told of the parts' clauses comes ahead of the clause that would be TOO BIG.
        String fifteen = terms.substring(0, terms.indexOf("v15"));
        String others = terms.substring(terms.indexOf("v15"));
        String long1 = "(weak (" + fifteen.trim() + ") (same x))";
        String long2 = "(weak (" + others.trim() + ") (same y))";
        String wrong1 = "(cut z " + long1 + " " + long2.replace("(v15", "((not z) v15") + ")";
        wrong(t, wrong1, wrong1, 5);
        String wrong2 = "(cut z " + long1.replace("(v0", "(z v0") + " " + long2 + ")";
        wrong(t, wrong2, wrong2, 5);
        t.unworked("(check a t (cut z " + long1.replace("(v0", "(z v0") + " " + long2.replace("(v15", "((not z) v15") + "))", 4, 5);
        t.house.fuel(2);
        t.unworked("(check a t (swap (swap (same x))))", 1, 2);
        t.house.fuel(1000);
        String deep = "(swap ".repeat(37) + "(same x)" + ")".repeat(37);
        t.due("(check a (equal x x) " + deep + ")", 0, "", 38);
        Tester.same("theorems", t.house.count(1), 1);
    }

    /** Nearly as many PATHS as a body can have, and nearly as many clauses held at once as 1000 words can bring. */
    private static void manyParts() {
        Tester t = new Tester();
        t.done("(defun f (x) (if nil (f x) " + choices(38) + ") x)");
        String proof = "(same x)";
        for (int k = 1; k <= 5; k++) {
            proof = "(induct (equal x x) (f x)" + " (same x)".repeat(39) + " " + proof + ")";
            t.due("(check a" + k + " (equal x x) " + proof + ")", 0, "", 40 * k + 1);
        }
        // The first PATH has t, and NOT F for its call of f; the others have nil or x or (not x), and F.
        t.due("(check b (equal x x) " + proof.replaceFirst("\\(same x\\)", "(weak (t (not (equal x x))) (same x))") + ")",
                0, "", 40 * 5 + 2);
        Tester.same("another PATH", t.run("(check c t " + proof.replaceFirst("\\(same x\\) \\(same x\\)",
                "(same x) (weak (t) (same x))") + ")"), 7);
    }

    /** A term with so many calls of if, all of which are on PATHS. */
    private static String choices(int calls) {
        int half = (calls - 1) / 2;
        return calls == 0 ? "x" : "(if x " + choices(half) + " " + choices(calls - 1 - half) + ")";
    }
}
