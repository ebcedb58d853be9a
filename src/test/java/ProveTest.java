/** Promises 5 to 8 of prove and defthm: CLAUSES, TO PROVE, HINTS, RULES. */
public final class ProveTest {
    public static void main(String[] args) {
        simple();
        clauses();
        rounds();
        manyLeft();
        forms();
        induct();
        use();
        offHint();
        rules();
        onAndOff();
        roomAndNames();
        faults();
        grownInARound();
        Tester.finish();
    }

    private static void simple() {
        Tester t = new Tester();
        t.due("(prove t)", 0, "", 0).due("(prove 5)", 0, "", 0).due("(prove 'a)", 0, "", 0);
        t.due("(prove nil)", 6, "(nil)", 1).due("(prove x)", 6, "((x))", 1);
        t.due("(prove (equal x x))", 0, "", 3);
        t.due("(prove (equal (car (cons x y)) x))", 0, "", 6);
        t.due("(prove (implies x x))", 0, "", 7);
        t.due("(prove (equal x y))", 6, "(((equal x y)))", 3);
        t.due("(prove (not x))", 6, "(((not x)))", 2);
        t.due("(prove (not (not x)))", 6, "((x))", 3 + 1);
        Tester.same("nothing is taken", t.house.count(1), 0);
        t.due("(prove (if x (consp x) t))", 6, "(((not x) (consp x)))");
        Tester.same("LEFT", t.house.count(4), 1);
    }

    private static void clauses() {
        Tester t = new Tester();
        // if, x, y, z; the two clauses (not x) y and x z, each REWRITTEN once, and nothing changes.
        t.due("(prove (if x y z))", 6, "(((not x) y) (x z))", 4 + 3 + 2);
        t.due("(prove (not (if x y z)))", 6, "(((not x) (not y)) (x (not z)))");
        t.due("(prove (if x y t))", 6, "(((not x) y))");
        t.due("(prove (if x (if y x x) t))", 0, "");
        t.due("(prove (if x (if y x z) t))", 6, "(((not x) y z))");
        // With X and NOT X both a clause is PROVED when it is taken up: only (consp x) alone makes STEPS.
        t.done("(defun len (x) (if (consp x) (+ 1 (len (cdr x))) 0) (height x))");
        t.due("(prove (consp x) (induct (len x)))", 6, "(((consp x)))", 2);
        t.due("(prove (if (equal x 5) (consp x) t))", 6, "(((not (equal x 5))))");
        // What comes twice stands where it came first.
        t.due("(prove (if x (if y z z) z))", 6, "((z))");
        t.due("(prove (if x (if y (not x) z) z))", 6, "(((not x) (not y)) ((not x) y z) (x z))");
        t.due("(prove (if x (not x) y))", 6, "(((not x)) (x y))");
        // A literal that is nil goes.
        t.due("(prove (if x nil y))", 6, "(((not x)) (x y))");
        t.due("(prove (if x y nil))", 6, "(((not x) y) (x))");
    }

    private static void rounds() {
        Tester t = new Tester();
        // Each split uses up a ROUND; behind six the clause is LEFT as it is.
        t.due("(prove (if a (if b (if c (if d nil e) nil) nil) nil))", 6,
                "(((not a) (not b) (not c) (not d)) ((not a) (not b) (not c) d e) ((not a) (not b) c) ((not a) b) (a))");
        String eight = "(if a (if b (if c (if d (if e (if f (if g (if h i nil) nil) nil) nil) nil) nil) nil) nil)";
        Tester.same("eight conditions", t.run("(prove " + eight + ")"), 6);
        Tester.same("LEFT", t.house.count(4), 7);
        Tester.same("the first one has an if", t.out().startsWith(
                "(((not a) (not b) (not c) (not d) (not e) (not f) (if g (if h i nil) nil))"), true);
    }

    private static void manyLeft() {
        Tester t = new Tester();
        t.done("(defun p (a b) 3)");
        String six = "(if a (if b (if c (if d (if e u v) (if e v u)) (if d (if e u w) (if e w u))) (if d u (if e v w)))"
                + " (if c (if d (if e a1 a2) (if e a3 a4)) (if d (if e a5 a6) (if e a7 a8))))";
        Tester.same("many clauses", t.run("(prove " + six + ")"), 6);
        Tester.same("LEFT is 20 at most", t.house.count(4), 19);
        String more = "(if g " + six + " " + six.replace("a1", "b1") + ")";
        Tester.same("more clauses", t.run("(prove " + more + ")"), 6);
        Tester.same("LEFT is 20 at most", t.house.count(4), 20);
        Tester.same("those that were not taken up are not told", t.out().contains("b1"), false);
    }

    private static void forms() {
        Tester t = new Tester();
        t.done("(defun len (x) (if (consp x) (+ 1 (len (cdr x))) 0) (height x))").done("(defun f (x) 1)");
        t.done("(defthm a (equal (f x) (f y)))").done("(defthm b t)");
        for (String rest : new String[] {"", "(foo x)", "x hint", "x (hint)", "x ()", "x (induct)", "x (induct len)",
            "x (induct (len))", "x (induct (len x y))", "x (induct (len 5))", "x (induct (len nil))", "x (induct (f x))",
            "x (induct (car x))", "x (induct (5 x))", "x (induct (len x) (len y))", "x (induct (len x)) (induct (len x))",
            "x (induct (no x x))", "x (use)", "x (use 5)", "x (use (a))", "x (use a x)", "x (use a (x))",
            "x (use a (x 1 2))", "x (use a (z 1))", "x (use a (x 1) (x 2))", "x (use a (x (foo)))", "x (use a (nil 1))",
            "x (use a (5 1))", "x (use no (x 1) (x 2))", "x (use no (x (foo)))", "x (off)", "x (off 5)", "x (off a (b))",
            "x (off a) (off b)", "x (off a) (induct (len x)) (off b)", "x (use no) (foo)", "x (off no) (induct (f x))",
            "x . (use a)"}) {
            t.due("(prove " + rest + ")", 2, "", 0);
            t.due("(defthm n " + rest + ")", 2, "", 0);
        }
        for (String rest : new String[] {"x (induct (no x))", "x (induct (no))", "x (use no)", "x (use no (q 1))",
            "x (off no)", "x (off a no)", "x (use a) (use no)"}) {
            t.due("(prove " + rest + ")", 3, "", 0);
            t.due("(defthm n " + rest + ")", 3, "", 0);
        }
        t.due("(defthm)", 2, "").due("(defthm n)", 2, "").due("(defthm 5 t)", 2, "").due("(defthm car t)", 2, "");
        t.due("(defthm nil t)", 2, "").due("(defthm quote t)", 2, "").due("(defthm (n) t)", 2, "");
        t.due("(defthm a x)", 3, "", 0).due("(defthm a (foo))", 2, "", 0);
        Tester.same("theorems", t.house.count(1), 2);
    }

    private static void induct() {
        Tester t = new Tester();
        t.done("(defun len (x) (if (consp x) (+ 1 (len (cdr x))) 0) (height x))");
        t.due("(prove (natp (len x)))", 6, "(((natp (len x))))");
        t.due("(defthm n1 (natp (len x)) (induct (len x)))", 0, "", 32);
        Tester.same("taken", t.house.taken(1), 2);
        t.done("(defun app (x y) (if (consp x) (cons (car x) (app (cdr x) y)) y) (height x))");
        t.due("(prove (equal (app (app x y) z) (app x (app y z))))", 6,
                "(((equal (app (app x y) z) (app x (app y z)))))");
        t.done("(defthm assoc (equal (app (app x y) z) (app x (app y z))) (induct (app x y)))");
        // The v are variables of F or not; the clauses are of those that the function has.
        t.due("(prove (equal u v) (induct (len u)))", 6,
                "(((not (consp u)) (not (equal (cdr u) v)) (equal u v)) ((consp u) (equal u v)))");
        t.due("(prove (equal u v) (induct (len w)))", 6, "(((consp w) (equal u v)))");
        t.due("(prove (equal u v) (induct (app v u)))", 6,
                "(((not (consp v)) (not (equal u (cdr v))) (equal u v)) ((consp v) (equal u v)))");
        t.done("(defun six (a b c d e f) (if (consp f) (six b c d e a (cdr f)) a) (height f))");
        t.due("(prove (equal a f) (induct (six a b c d e f)))", 6,
                "(((not (consp f)) (not (equal b (cdr f))) (equal a f)) ((consp f) (equal a f)))");
    }

    private static void use() {
        Tester t = new Tester();
        t.done("(defun f (x) (if (consp x) 1 2))").done("(defthm r (equal (f (cons a b)) 1))").done("(off r)");
        t.due("(prove (implies (f x) (f x)) (use r (a 1)))", 0, "", 31);
        t.done("(defun p (x y) 3)").done("(defthm e (equal (p x y) 3))").done("(off e)");
        t.done("(defun h (x) (if (consp x) (h (cdr x)) x) (height x))");
        t.due("(prove (consp (h x)) (use e (x (h y))) (use e))", 6, "(((consp (h x))))");
        // The first use comes first, ahead of F; the same one twice stands once.
        t.done("(defun c (x) t)").done("(defthm c1 (c x))").done("(defthm c2 (equal (c y) t))");
        t.due("(prove (h z) (use c1 (x (h q))) (use c2) (use c1 (x (h q))))", 6, "(((h z)))");
    }

    private static void offHint() {
        Tester t = new Tester();
        t.done("(defun f (x) (if (consp x) (f (cdr x)) 7) (height x))");
        t.done("(defthm seven (equal (f x) 7) (induct (f x)))");
        t.due("(prove (equal (f y) 7))", 0, "", 6);
        t.due("(prove (equal (f y) 7) (off seven))", 6, "(((equal (f y) 7)))");
        t.due("(prove (equal (f y) 7))", 0, "", 6);
        Tester.same("it stays ON", t.house.count(3), 1);
        t.done("(defthm none (implies x x) (off seven))");
        t.due("(prove (equal (f y) 7) (off none seven none))", 6, "(((equal (f y) 7)))");
        t.due("(prove (equal (f y) 7) (off none))", 0, "", 6);
    }

    /** Proves the formula and asks whether it has a RULE. */
    private static void rule(Tester t, String formula, boolean has) {
        int before = t.house.count(2);
        t.done("(defthm new " + formula + ")");
        Tester.same(formula + " has a RULE", t.house.count(2) - before, has ? 1 : 0);
        Tester.same(formula + " has it ON", t.house.count(3) - before, has ? 1 : 0);
        t.done("(undo)");
        Tester.same(formula + " is gone", t.house.count(2), before);
    }

    private static void rules() {
        Tester t = new Tester();
        t.done("(defun p (x y) 3)").done("(defun c (x) 3)").done("(defun n (x) nil)");
        rule(t, "(equal (p x y) 3)", true);
        rule(t, "(equal (p x y) (c y))", true);
        rule(t, "(equal (c x) (p x y))", false);
        rule(t, "(equal 3 (c x))", false);
        rule(t, "(equal x x)", false);
        rule(t, "(equal (c x) (c x))", false);
        rule(t, "(equal (if x 3 3) (c x))", false);
        rule(t, "(equal (not (n x)) t)", false);
        rule(t, "(equal (implies (n x) x) t)", false);
        rule(t, "(equal (cons x (c y)) (cons x 3))", true);
        rule(t, "(c x)", true);
        rule(t, "(not (n x))", true);
        rule(t, "(not (not (c x)))", false);
        rule(t, "(implies (consp y) (equal (c x) 3))", false);
        rule(t, "(implies (consp x) (equal (c x) 3))", true);
        rule(t, "(implies (consp x) (implies (natp y) (equal (p x y) 3)))", true);
        rule(t, "(implies (if (consp x) (if (natp y) t nil) nil) (p x y))", true);
        rule(t, "(implies (if x y z) (c x))", false);
        rule(t, "(if x (c x) t)", false);
        rule(t, "t", false);
        rule(t, "(implies x x)", false);
        rule(t, "(natp (c x))", true);
        rule(t, "(equal (equal x x) t)", true);
        rule(t, "(equal (c 1) 3)", true);
    }

    private static void onAndOff() {
        Tester t = new Tester();
        t.done("(defun c (x) 3)").done("(defthm a (equal (c x) 3))").done("(defthm b (implies x x))");
        Tester.same("RULES", t.house.count(2), 1);
        t.done("(off a)");
        Tester.same("ON", t.house.count(3), 0);
        Tester.same("RULES", t.house.count(2), 1);
        t.done("(off a)").done("(on a)");
        Tester.same("ON", t.house.count(3), 1);
        t.due("(on b)", 3, "", 0).due("(off b)", 3, "", 0).due("(on z)", 3, "").due("(off z)", 3, "");
        t.due("(on)", 2, "").due("(off)", 2, "").due("(on a b)", 2, "").due("(on 5)", 2, "").due("(off car)", 2, "");
        t.due("(on (a))", 2, "");
    }

    private static void roomAndNames() {
        Tester t = new Tester();
        for (int k = 0; k < 60; k++) {
            t.done("(defthm n" + k + " (equal " + k + " " + k + "))");
        }
        t.due("(defthm m t)", 8, "", 0).due("(check m t (same 1))", 8, "", 0).due("(defthm n5 t)", 3, "");
        t.due("(check n5 t (same 1))", 3, "").due("(defthm m t (use no))", 3, "").due("(defthm m (foo))", 2, "");
        t.done("(prove t)").done("(defun f (x) x)");
        Tester.same("theorems", t.house.count(1), 60);
        t.done("(undo)").done("(undo)").done("(defthm m t)").due("(defthm m2 t)", 8, "");
    }

    private static void faults() {
        Tester t = new Tester();
        t.done("(defthm id (implies x x))");
        t.house.fuel(2);
        t.unworked("(prove (equal x x))", 1, 2);
        t.unworked("(defthm a (equal x x))", 1, 2);
        Tester.same("nothing is taken", t.house.count(1), 1);
        Tester.same("recheck", t.house.recheck(), false);
        t.house.fuel(3);
        t.due("(prove (equal x x))", 0, "", 3);
        t.house.fuel(1000);
        // An instance with a SIZE of 121 is TOO BIG as it is made; one of 120 and its NOT isn't.
        String sixty = "(cons x ".repeat(29) + "(car x)" + ")".repeat(29);
        t.unworked("(prove x (use id (x (car " + sixty + "))))", 4, 0);
        // 31 literals.
        StringBuilder uses = new StringBuilder();
        for (int k = 0; k < 30; k++) {
            uses.append("(use id (x v").append(k).append("))");
        }
        t.unworked("(prove x " + uses + ")", 4, 0);
        // 30 are not TOO BIG.
        t.due("(prove x " + uses.substring("(use id (x v0))".length()) + ")", 6, "((x))");
        // SIZES of more than 400 together.
        String forty = "(car ".repeat(36) + "x" + ")".repeat(36);
        StringBuilder heavy = new StringBuilder();
        for (int k = 0; k < 6; k++) {
            heavy.append("(use id (x ").append(forty.replace("x", "v" + k)).append("))");
        }
        t.unworked("(prove x " + heavy + ")", 4, 0);
    }

    /** A clause is measured as it is made: behind a ROUND, or as one of two, but not in the midst of a ROUND. */
    private static void grownInARound() {
        Tester t = new Tester();
        t.done("(defun q (x n) (if (consp n) (q x (cdr n)) t) (height n))").done("(defthm a (q x n) (induct (q x n)))");
        String ninetyFive = "(equal " + chain("car", 30) + " (equal " + chain("cdr", 30) + " " + chain("height", 30) + "))";
        t.done("(defun g (y) " + ninetyFive.replace("x", "y") + ")");
        StringBuilder uses = new StringBuilder(" (off a)");
        for (int k = 0; k < 4; k++) {
            uses.append(" (use a (x (g v").append(k).append(")))");
        }
        // Each (not (q (g v) n)), of SIZE 5, comes out with one of 98: not, q, g, v, its body, n, (consp n), n.
        int grown = 4 + 95 + 3;
        String eight = chain("car", 7).replace("x", "p");
        t.due("(prove (equal " + eight + " " + eight + ")" + uses + ")", 0, "", 4 * grown + 17);
        Tester.same("recheck", t.house.recheck(), true);
        // 4 * 98 + 8 is not TOO BIG, one more is, but only behind the ROUND.
        t.house.fuel(2 * (4 * grown + 8) - 4 * 2);
        Tester.same("SIZES of 400", t.run("(prove " + eight + uses + ")"), 6);
        t.unworked("(prove (car " + eight + ")" + uses + ")", 4, 4 * grown + 9);
        // What goes, or becomes less, behind the literals that grow counts as it is then.
        String three = uses.substring(0, uses.lastIndexOf(" (use"));
        String cropped = "(car (cons p (cons " + eight + " " + ninetyFive.replace("x", "p") + ")))";
        t.house.fuel(1000);
        Tester.same("SIZES that fall", t.run("(prove (cons 1 " + cropped + ")" + three + ")"), 6);
        t.due("(prove (if p (equal r " + cropped + ") t)" + three + ")", 6, t.out().replace("(cons 1 p)", "(not p) (equal r p)"));
        // One of two that is TOO BIG.
        t.unworked("(prove (if s r (equal r " + eight + "))" + uses + ")", 4, 4 * grown + 3 + 2 + 8);
    }

    private static String chain(String name, int depth) {
        return ("(" + name + " ").repeat(depth) + "x" + ")".repeat(depth);
    }
}
