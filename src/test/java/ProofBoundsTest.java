/** Terms 7, PROOFS: of each sentence that names a limit the last case that is allowed and the first that isn't. */
public final class ProofBoundsTest {
    private static final String WHERE = "Terms 7";
    private static final String GREATEST = "4611686018427387903";

    public static void main(String[] args) {
        terms();
        lengths();
        depth();
        stepAheadOfAll();
        formAheadOfParts();
        partsFromTheLeft();
        clausesLast();
        values();
        named();
        weak();
        cut();
        inst();
        firstLiteral();
        put();
        induct();
        inductPaths();
        bigClauses();
        Tester.finish();
    }

    /** The PROOF's clause, seen since it isn't that of the formula. */
    private static void clause(Tester t, String proof, String told, int steps) {
        t.due("(check new zz " + proof + ")", 7, told, steps);
    }

    private static void wrong(Tester t, String proof, int steps) {
        t.due("(check new zz " + proof + ")", 7, proof, steps);
    }

    private static void terms() {
        Tester.sentence(WHERE, "L, M, N are terms (as in a TEXT), C is a list of terms");
        Tester t = new Tester();
        t.done("(defun f (x) x)");
        clause(t, "(same '5)", "((equal 5 5))", 1);
        clause(t, "(taut (f nil))", "((f nil) (not (f nil)))", 1);
        for (String none : new String[] {"(no)", "(f)", "(f 1 2)", "(car . x)", "(5)", "(quote)", "(quote a b)"}) {
            for (String form : new String[] {"(taut @)", "(same @)", "(value @)", "(first @ x)", "(first x @)", "(second @ x)",
                "(second x @)", "(pair @ x)", "(pair x @)", "(yes @ x x)", "(yes x @ x)", "(yes x x @)", "(no @ x x)", "(no x @ x)",
                "(no x x @)", "(weak (@) (same x))", "(weak (x @) (same x))", "(cut @ (taut x) (taut x))", "(inst (same x) (x @))"}) {
                wrong(t, form.replace("@", none), 1);
            }
        }
        clause(t, "(weak () (same x))", "((equal x x))", 2);
        for (String none : new String[] {"x", "5", "t", "(x . y)"}) {
            wrong(t, "(weak " + none + " (same x))", 1);
        }
        // 'x is the list of the variables quote and x.
        clause(t, "(weak 'x (same x))", "((equal x x) quote x)", 2);
    }

    private static void lengths() {
        Tester.sentence(WHERE, "PROOFS, and the clause that each has .. (taut L): L, NOT L. (same L): (equal L L). .. "
                + "(first L M): (equal (car (cons L M)) L). (second L M): (equal (cdr (cons L M)) M). (pair L M): (consp (cons L M)). "
                + "(yes L M N): NOT L, (equal (if L M N) M). (no L M N): L, (equal (if L M N) N).");
        Tester t = new Tester();
        t.done("(defun f (x) x)").done("(defthm a (equal x x))");
        String[] forms = {"(taut x)", "(same x)", "(value (car 1))", "(first x y)", "(second x y)", "(pair x y)", "(yes x y z)",
            "(no x y z)", "(def f)", "(thm a)", "(weak (y) (same x))", "(cut x (taut x) (taut x))", "(swap (same x))",
            "(put (same x) (same y))"};
        String[] dues = {"(x (not x))", "((equal x x))", "((equal (car 1) nil))", "((equal (car (cons x y)) x))",
            "((equal (cdr (cons x y)) y))", "((consp (cons x y)))", "((not x) (equal (if x y z) y))", "(x (equal (if x y z) z))",
            "((equal (f x) x))", "((equal x x))", "((equal x x) y)", "((not x) x)", "((equal x x))", "((equal y y))"};
        for (int k = 0; k < forms.length; k++) {
            String open = forms[k].substring(0, forms[k].length() - 1);
            Tester.same(forms[k], t.run("(check new zz " + forms[k] + ")"), 7);
            Tester.same(forms[k], t.out(), dues[k]);
            wrong(t, open + " z)", 1);
            wrong(t, open + " . z)", 1);
            wrong(t, open.substring(0, open.indexOf(' ')) + ")", 1);
        }
        for (String less : new String[] {"(first x)", "(second x)", "(pair x)", "(yes x y)", "(no x y)", "(weak (y))", "(cut x (taut x))",
            "(put (same x))", "(inst)", "(induct)", "(induct x)", "taut", "5", "nil", "(nil x)", "(5 x)", "((taut) x)", "(tau x)",
            "(eval 1)", "(theorem a)"}) {
            wrong(t, less, 1);
        }
    }

    private static void depth() {
        Tester.sentence(WHERE, "Each is one STEP, ahead of all else, TOO DEEP within 40 others (asked first)");
        Tester t = new Tester();
        // A ( in 40 that are open can't be read, so no PROOF can be told within 40 others; 39 are, and one that is an ATOM in them.
        t.due("(check a (equal x x) " + Texts.chain("swap", 38, "(same x)") + ")", 0, "", 39).done("(undo)");
        clause(t, Texts.chain("swap", 39, "atom"), "atom", 40);
        t.unread("(check a (equal x x) " + Texts.chain("swap", 39, "(same x)") + ")", 4, 21 + 6 * 39);
        String weak = Texts.chain("weak ()", 38, "(same x)");
        t.due("(check a (equal x x) " + weak + ")", 0, "", 39);
        t.house.fuel(38);
        t.unworked("(check b (equal x x) " + weak + ")", 1, 38);
        t.house.fuel(39);
        t.due("(check b (equal x x) " + weak + ")", 0, "", 39);
    }

    private static void stepAheadOfAll() {
        Tester.sentence(WHERE, "Each is one STEP, ahead of all else");
        Tester t = new Tester();
        t.house.fuel(1);
        clause(t, "(same x)", "((equal x x))", 1);
        wrong(t, "(foo)", 1);
        t.unworked("(check new zz (swap (foo)))", 1, 1).unworked("(check new zz (swap (same x)))", 1, 1);
        wrong(t, "(swap (foo) x)", 1);
        t.house.fuel(2);
        clause(t, "(swap (foo))", "(foo)", 2);
        clause(t, "(swap (same x))", "((equal x x))", 2);
        wrong(t, "(swap (pair x x))", 2);
    }

    private static void formAheadOfParts() {
        Tester.sentence(WHERE, "Its form is asked ahead of its parts, then these from the left, then what is told of "
                + "their clauses; "
                + "where something is not so: 7, OUT that PROOF");
        Tester t = new Tester();
        t.done("(defun len (x) (if (consp x) (+ 1 (len (cdr x))) 0) (height x))");
        for (String form : new String[] {"(weak x (foo))", "(weak ((no)) (foo))", "(cut (no) (foo) (foo))", "(cut x (foo))",
            "(cut x (foo) (foo) (foo))", "(inst (foo) (x))", "(inst (foo) (x 1) (x 2))", "(inst (foo) (nil 1))", "(swap (foo) (foo))",
            "(put (foo))", "(put (foo) (foo) (foo))", "(induct (no) (len x) (foo) (foo))", "(induct x (len) (foo) (foo))",
            "(induct x (len x) (foo))", "(induct x (len x) (foo) (foo) (foo))", "(induct x (no x) (foo) (foo))"}) {
            wrong(t, form, 1);
        }
        for (String form : new String[] {"(weak (x) (foo))", "(cut x (foo) (bar))", "(inst (foo) (x 1))", "(swap (foo))", "(put (foo) (bar))",
            "(induct x (len x) (foo) (bar))"}) {
            clause(t, form, "(foo)", 2);
        }
    }

    private static void partsFromTheLeft() {
        Tester.sentence(WHERE, "Its form is asked ahead of its parts, then these from the left");
        Tester t = new Tester();
        t.done("(defun len (x) (if (consp x) (+ 1 (len (cdr x))) 0) (height x))");
        clause(t, "(cut x (same x) (foo))", "(foo)", 3);
        clause(t, "(cut x (swap (foo 1)) (foo 2))", "(foo 1)", 3);
        clause(t, "(put (pair x y) (foo))", "(foo)", 3);
        clause(t, "(put (swap (pair x y)) (foo))", "(swap (pair x y))", 3);
        clause(t, "(induct x (len x) (same y) (foo))", "(foo)", 3);
        // A FAULT OF WORK comes where its PROOF ends, ahead of the next part.
        t.unworked("(check new zz (put (same " + Texts.sized(60, "x") + ") (foo)))", 4, 2);
        clause(t, "(put (foo) (same " + Texts.sized(60, "x") + "))", "(foo)", 2);
    }

    private static void clausesLast() {
        Tester.sentence(WHERE, "then what is told of their clauses");
        Tester t = new Tester();
        wrong(t, "(cut y (taut x) (taut x))", 3);
        wrong(t, "(swap (pair x y))", 2);
        wrong(t, "(put (pair x y) (same x))", 3);
        clause(t, "(weak () (swap (weak () (pair x y))))", "(swap (weak nil (pair x y)))", 4);
    }

    private static void values() {
        Tester.sentence(WHERE, "(value L): (equal L K), L a call of a BASE function of constants, K its value (TOO GREAT: 7)");
        Tester t = new Tester();
        t.done("(defun f (x) x)");
        clause(t, "(value (+ 4611686018427387902 1))", "((equal (+ 4611686018427387902 1) " + GREATEST + "))", 1);
        wrong(t, "(value (+ " + GREATEST + " 1))", 1);
        clause(t, "(value (- 1 2))", "((equal (- 1 2) 0))", 1);
        clause(t, "(value (car '((a))))", "((equal (car '((a))) '(a)))", 1);
        clause(t, "(value (if 0 'a 1))", "((equal (if 0 'a 1) 'a))", 1);
        clause(t, "(value (if nil 'a 1))", "((equal (if nil 'a 1) 1))", 1);
        clause(t, "(value (implies 1 nil))", "((equal (implies 1 nil) nil))", 1);
        clause(t, "(value (not nil))", "((equal (not nil) t))", 1);
        for (String none : new String[] {"x", "5", "'(car 1)", "(car x)", "(car (car 1))", "(f 1)", "(if t 1 x)", "(cons 1 (cons 1 1))"}) {
            wrong(t, "(value " + none + ")", 1);
        }
    }

    private static void named() {
        Tester.sentence(WHERE, "(def f): (equal (f x ..) T), f DEFINED with x and T. (thm n): the theorem's F");
        Tester t = new Tester();
        t.done("(defun f (x y) (cons y '7))").done("(defun k () 1)").done("(defthm a (equal x x))");
        clause(t, "(def f)", "((equal (f x y) (cons y 7)))", 1);
        clause(t, "(def k)", "((equal (k) 1))", 1);
        clause(t, "(thm a)", "((equal x x))", 1);
        for (String none : new String[] {"(def a)", "(def no)", "(def car)", "(def if)", "(def nil)", "(def 5)", "(def (f))", "(thm f)",
            "(thm no)", "(thm 5)", "(thm nil)", "(thm (a))", "(thm new)"}) {
            wrong(t, none, 1);
        }
        t.done("(undo)");
        wrong(t, "(thm a)", 1);
    }

    private static void weak() {
        Tester.sentence(WHERE, "(weak C P): P's literals, then those of C");
        Tester t = new Tester();
        clause(t, "(weak (y x z y) (taut x))", "(x (not x) y z)", 2);
        clause(t, "(weak ('5 (not x)) (taut x))", "(x (not x) 5)", 2);
        clause(t, "(weak " + "(" + Texts.variables(29) + ") (same x))", "((equal x x) " + Texts.variables(29) + ")", 2);
        t.unworked("(check new zz (weak (" + Texts.variables(30) + ") (same x)))", 4, 2);
        clause(t, "(weak " + "(" + Texts.variables(29) + " v3 v4) (same x))", "((equal x x) " + Texts.variables(29) + ")", 2);
    }

    private static void cut() {
        Tester.sentence(WHERE, "(cut L P Q): P's without L, which it must have, then Q's without NOT L, which it must have");
        Tester t = new Tester();
        clause(t, "(cut x (weak (a) (taut x)) (weak (b) (taut x)))", "((not x) a x b)", 5);
        clause(t, "(cut (not x) (taut x) (taut x))", "(x (not x))", 3);
        clause(t, "(cut 5 (taut 5) (taut 5))", "(nil 5)", 3);
        clause(t, "(cut nil (taut nil) (taut nil))", "(t nil)", 3);
        wrong(t, "(cut x (same y) (taut x))", 3);
        wrong(t, "(cut x (taut x) (same y))", 3);
        wrong(t, "(cut x (taut x) (weak (x) (same y)))", 4);
        wrong(t, "(cut x (weak ((not x)) (same y)) (taut x))", 4);
        wrong(t, "(cut (not x) (taut x) (weak ((not (not x))) (same y)))", 4);
        // With an L of 120, whose NOT would be TOO BIG, it is wrong: Q can't have that.
        String great = Texts.sized(120, "x");
        wrong(t, "(cut " + great + " (weak (" + great + ") (same y)) (same y))", 4);
        clause(t, "(cut " + Texts.sized(119, "x") + " (taut " + Texts.sized(119, "x") + ") (taut " + Texts.sized(119, "x") + "))",
                "((not " + Texts.sized(119, "x") + ") " + Texts.sized(119, "x") + ")", 3);
    }

    private static void inst() {
        Tester.sentence(WHERE, "(inst P (x T) ..): P's with T for x, different variables x, perhaps none");
        Tester t = new Tester();
        clause(t, "(inst (taut (cons x y)))", "((cons x y) (not (cons x y)))", 2);
        clause(t, "(inst (taut (cons x y)) (x y) (y x))", "((cons y x) (not (cons y x)))", 2);
        clause(t, "(inst (inst (taut (cons x y)) (x a)) (y b))", "((cons a b) (not (cons a b)))", 3);
        clause(t, "(inst (inst (taut (cons x y)) (x y)) (y x))", "((cons x x) (not (cons x x)))", 3);
        clause(t, "(inst (taut x) (z 1))", "(x (not x))", 2);
        clause(t, "(inst (taut x) (x nil))", "(nil (not nil))", 2);
        clause(t, "(inst (taut (not x)) (x (not y)))", "((not (not y)) (not y))", 2);
        for (String none : new String[] {"x", "(x)", "(x 1 2)", "(x . 1)", "(nil 1)", "(t 1)", "(5 1)", "('x 1)", "(x 1) (x 1)",
            "(x 1) (y 2) (x 3)", "nil"}) {
            wrong(t, "(inst (taut x) " + none + ")", 1);
        }
        String great = Texts.sized(119, "y");
        clause(t, "(inst (taut x) (x " + great + "))", "(" + great + " (not " + great + "))", 2);
        t.unworked("(check new zz (inst (taut x) (x " + Texts.sized(120, "y") + ")))", 4, 2);
    }

    private static void firstLiteral() {
        Tester.sentence(WHERE, "(swap P): P's first literal must be (equal A B): (equal B A), then the others");
        Tester t = new Tester();
        clause(t, "(swap (weak (a b) (first x y)))", "((equal x (car (cons x y))) a b)", 3);
        clause(t, "(swap (taut (equal x y)))", "((equal y x) (not (equal x y)))", 2);
        wrong(t, "(swap (taut (not (equal x y))))", 2);
        wrong(t, "(swap (yes x y z))", 2);
        wrong(t, "(swap (taut (cons x y)))", 2);
        wrong(t, "(swap (taut equal))", 2);
        wrong(t, "(swap (taut '(equal x y)))", 2);
        clause(t, "(swap (weak ((equal y x)) (taut (equal x y))))", "((equal y x) (not (equal x y)))", 3);
    }

    private static void put() {
        Tester.sentence(WHERE, "(put P Q): P's first literal must be (equal A B): Q's, with B wherever A stands in "
                + "them as a term, then P's others");
        Tester t = new Tester();
        clause(t, "(put (taut (equal x y)) (taut (cons x 'x)))", "((cons y 'x) (not (cons y 'x)) (not (equal x y)))", 3);
        clause(t, "(put (taut (equal nil 5)) (taut (cons nil '(nil))))", "((cons 5 '(nil)) (not (cons 5 '(nil))) (not (equal nil 5)))", 3);
        clause(t, "(put (taut (equal (car x) x)) (taut (car (car x))))", "((car x) (not (car x)) (not (equal (car x) x)))", 3);
        clause(t, "(put (taut (equal car 1)) (taut (car car)))", "((car 1) (not (car 1)) (not (equal car 1)))", 3);
        // What an inst within it stands for has no part in it.
        clause(t, "(put (inst (taut (equal x y)) (y z)) (taut (cons x y)))", "((cons z y) (not (cons z y)) (not (equal x z)))", 4);
        wrong(t, "(put (taut (not (equal x y))) (taut x))", 3);
        wrong(t, "(put (taut x) (taut (equal x y)))", 3);
        // With more than 120 it is TOO BIG.
        String great = Texts.sized(59, "y");
        clause(t, "(put (taut (equal x " + great + ")) (weak ((cons x x)) (same z)))",
                "((equal z z) (cons " + great + " " + great + ") (not (equal x " + great + ")))", 4);
        t.unworked("(check new zz (put (taut (equal x " + Texts.sized(60, "y") + ")) (weak ((cons x x)) (same z))))", 4, 4);
    }

    private static void induct() {
        Tester.sentence(WHERE, "(induct F (f v ..) P ..), f and v as in the HINT: a P for each PATH");
        Tester t = new Tester();
        t.done("(defun len (x) (if (consp x) (+ 1 (len (cdr x))) 0) (height x))").done("(defun f (x) x)");
        t.done("(defun three (x y) (if (consp x) (three (cdr x) y) (if y 1 2)) (height x))");
        clause(t, "(induct (equal v v) (len v) (same v) (same v))", "((equal v v))", 3);
        clause(t, "(induct (equal v v) (three v u) (same v) (same v) (same v))", "((equal v v))", 4);
        for (String same : new String[] {"", " (same v)", " (same v) (same v)", " (same v) (same v) (same v) (same v)"}) {
            wrong(t, "(induct (equal v v) (three v u)" + same + ")", 1);
        }
        for (String call : new String[] {"(f v)", "(car v)", "(no v)", "(len)", "(len v u)", "(len 5)", "(len nil)", "len", "(5 v)"}) {
            wrong(t, "(induct (equal v v) " + call + " (same v) (same v))", 1);
        }
        wrong(t, "(induct (equal v v) (three v v) (same v) (same v) (same v))", 1);
        wrong(t, "(induct (no) (len v) (same v) (same v))", 1);
    }

    private static void inductPaths() {
        Tester.sentence(WHERE, "whose clause must have no literals but those of the clause that induct has for that PATH: F");
        Tester t = new Tester();
        t.done("(defun len (x) (if (consp x) (+ 1 (len (cdr x))) 0) (height x))");
        String f = "(equal v v)";
        String all = "(not (consp v)) (not (equal (cdr v) (cdr v)))";
        clause(t, "(induct " + f + " (len v) (weak (" + all + ") (same v)) (weak ((consp v)) (same v)))", "(" + f + ")", 5);
        for (String other : new String[] {"(consp v)", "(not (equal v v))", "v", "(equal (cdr v) (cdr v))", "nil", "t"}) {
            wrong(t, "(induct " + f + " (len v) (weak (" + other + ") (same v)) (same v))", 4);
        }
        for (String other : new String[] {"(not (consp v))", "(not (equal (cdr v) (cdr v)))", "v", "t"}) {
            wrong(t, "(induct " + f + " (len v) (same v) (weak (" + other + ") (same v)))", 4);
        }
        // The first PATH's clause is asked ahead of the second one's.
        wrong(t, "(induct " + f + " (len v) (same u) (same u))", 3);
    }

    private static void bigClauses() {
        Tester.sentence("Terms 5", "One of more than 30, or whose SIZES together are above 400, is TOO BIG, as it is made");
        Tester t = new Tester();
        // Fifteen and fifteen others, with two more that go: 30; with one more: 31.
        String left = "(weak (x " + Texts.variables(14) + ") (same a))";
        String right = "(weak ((not x) " + Texts.variables(14).replace("v", "w") + ") (same b))";
        Tester.same("30 by cut", t.run("(check new zz (cut x " + left + " " + right + "))"), 7);
        Tester.same("30 by cut", t.out().startsWith("((equal a a) v0"), true);
        t.unworked("(check new zz (cut x " + left + " " + right.replace("w0", "w0 z") + "))", 4, 5);
        // With put: Q's, then P's others.
        String equation = "(weak (" + Texts.variables(15) + ") (same a))";
        String others = "(weak (" + Texts.variables(14).replace("v", "w") + ") (same b))";
        Tester.same("30 by put", t.run("(check new zz (put " + equation + " " + others + "))"), 7);
        Tester.same("30 by put", t.out().startsWith("((equal b b) w0"), true);
        t.unworked("(check new zz (put " + equation + " " + others.replace("w0", "w0 z") + "))", 4, 5);
        // An instance's SIZES together: 3, three times 120, and 37 or 38.
        t.done("(defun g (x) x)");
        String four = "(weak ((cons x " + Texts.sized(95, "u") + ") (cons x " + Texts.sized(95, "v") + ") (cons x " + Texts.sized(95, "w")
                + ") last) (same y))";
        String made = "(check new zz (inst " + four + " (x " + Texts.sized(24, "y") + ")))";
        Tester.same("SIZES of 400", t.run(made.replace("last", Texts.chain("g", 13, "x"))), 7);
        Tester.same("SIZES of 400", t.out().startsWith("((equal y y) "), true);
        t.unworked(made.replace("last", Texts.chain("g", 14, "x")), 4, 3);
    }
}
