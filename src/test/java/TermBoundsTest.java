/** Terms 2 and 3, TERMS, FUEL AND FAULTS OF WORK: the last case that is allowed and the first that isn't. */
public final class TermBoundsTest {
    private static final String TWO = "Terms 2";
    private static final String THREE = "Terms 3";
    private static final String MADE = "One that is made (an instance of another one, a call or NOT made of terms)"
            + " with more is TOO BIG, as it is made";
    private static final String GREATEST = "4611686018427387903";
    private static final String DOWN = "(defun down (n) (if (< 0 n) (down (- n 1)) 0) n)";

    public static void main(String[] args) {
        variables();
        sameConstants();
        arities();
        reserved();
        sides();
        heights();
        logic();
        numbers();
        tooGreat();
        sizeOfTexts();
        sizeOfConstants();
        madeInstances();
        madeCalls();
        madeNots();
        nots();
        booleans();
        fuels();
        outOfFuel();
        asTheyCome();
        changesNothing();
        stepsOfValues();
        calls();
        Tester.finish();
    }

    private static void variables() {
        Tester.sentence(TWO, "A VARIABLE is a symbol but nil and t");
        Tester t = new Tester();
        t.due("(eval nil)", 0, "nil").due("(eval t)", 0, "t").due("(eval x)", 2, "").due("(eval if)", 2, "");
        for (String name : new String[] {"x", "nill", "tt", "1a", "-", "if", "quote", "eval", "+"}) {
            t.due("(simplify " + name + ")", 0, name, 1);
            t.done("(defun f (" + name + ") (cons " + name + " 1))").due("(eval (f 7))", 0, "(7 . 1)").done("(undo)");
        }
        for (String none : new String[] {"nil", "t", "5", "'x", "(x)"}) {
            t.due("(defun f (" + none + ") 1)", 2, "");
        }
    }

    private static void sameConstants() {
        Tester.sentence(TWO, "naturals, nil, t with quote are the same constants as without it, and are told without");
        Tester t = new Tester();
        t.due("(simplify '5)", 0, "5").due("(simplify 'nil)", 0, "nil").due("(simplify 't)", 0, "t");
        t.due("(simplify 'a)", 0, "'a").due("(simplify ''5)", 0, "''5").due("(simplify '(5))", 0, "'(5)");
        t.due("(simplify (quote 5))", 0, "5").due("(simplify '())", 0, "nil");
        t.due("(prove (equal '5 x))", 6, "(((equal 5 x)))");
        t.due("(check a (equal '5 5) (same 5))", 0, "").done("(undo)");
        Tester.sentence(TWO, "A CONSTANT is a natural, nil, t, or a list (quote X)");
        for (String none : new String[] {"(quote)", "(quote . a)", "(quote a b)", "(quote a . b)"}) {
            t.due("(eval " + none + ")", 2, "");
        }
    }

    private static void arities() {
        Tester.sentence(TWO, "A CALL is a list of a FUNCTION's name and as many terms as it takes");
        Tester.sentence(TWO, "BASE functions: if 3; equal, cons, implies, +, -, < 2; consp, car, cdr, natp, symbolp, "
                + "height, not 1");
        Tester t = new Tester();
        t.done("(defun none () 1)").done("(defun six (a b c d e f) 1)");
        String[] names = {"if", "equal", "cons", "implies", "+", "-", "<", "consp", "car", "cdr", "natp", "symbolp",
            "height", "not", "none", "six"};
        int[] takes = {3, 2, 2, 2, 2, 2, 2, 1, 1, 1, 1, 1, 1, 1, 0, 6};
        for (int k = 0; k < names.length; k++) {
            for (int n = 0; n <= 8; n++) {
                String call = "(" + names[k] + " 1".repeat(n) + ")";
                Tester.same(call, t.run("(eval " + call + ")"), n == takes[k] ? 0 : 2);
                Tester.same(call + " within", t.run("(eval (cons 1 " + call + "))"), n == takes[k] ? 0 : 2);
            }
            Tester.same(names[k] + " with a dot", t.run("(eval (" + names[k] + " 1".repeat(takes[k]) + " . 1))"), 2);
        }
        t.due("(eval (unknown 1))", 2, "").due("(eval (5 1))", 2, "").due("(eval ((car) 1))", 2, "").due("(eval (nil))", 2, "");
    }

    private static void reserved() {
        Tester.sentence(TWO, "quote, nil, t and the names of BASE functions are RESERVED");
        Tester t = new Tester();
        for (String name : new String[] {"quote", "nil", "t", "if", "equal", "cons", "implies", "+", "-", "<", "consp", "car",
            "cdr", "natp", "symbolp", "height", "not"}) {
            t.due("(defun " + name + " (x) x)", 2, "").due("(defthm " + name + " t)", 2, "");
            t.due("(check " + name + " t (same 1))", 2, "").due("(on " + name + ")", 2, "").due("(off " + name + ")", 2, "");
        }
        // No other name is: those of commands, of PROOFS, and those that begin alike.
        for (String name : new String[] {"defun", "defthm", "eval", "taut", "induct", "theorem", "iff", "nott", "ni", "*", ">"}) {
            t.done("(defun " + name + " (x) 1)").due("(eval (" + name + " 5))", 0, "1");
            t.done("(defthm " + name + " (equal (" + name + " x) 1))").done("(off " + name + ")").done("(on " + name + ")");
            t.done("(undo)").done("(undo)");
        }
    }

    private static void value(String term, String told) {
        new Tester().due("(eval " + term + ")", 0, told);
    }

    private static void sides() {
        Tester.sentence(TWO, "car, cdr its sides, nil of what is none");
        for (String none : new String[] {"nil", "t", "'a", "0", GREATEST}) {
            value("(car " + none + ")", "nil");
            value("(cdr " + none + ")", "nil");
            value("(consp " + none + ")", "nil");
        }
        value("(car '(a))", "a");
        value("(cdr '(a))", "nil");
        value("(cdr '(a . b))", "b");
        value("(consp '(nil))", "t");
        Tester.sentence(TWO, "consp, natp, symbolp t or nil");
        value("(natp 0)", "t");
        value("(natp nil)", "nil");
        value("(natp '(0))", "nil");
        value("(symbolp nil)", "t");
        value("(symbolp 't)", "t");
        value("(symbolp 0)", "nil");
        value("(symbolp '(a))", "nil");
    }

    private static void heights() {
        Tester.sentence(TWO, "height 0 of what is no pair, else 1 and the greater one of both sides' heights");
        value("(height 'a)", "0");
        value("(height nil)", "0");
        value("(height 9)", "0");
        value("(height '(a))", "1");
        value("(height '(a b))", "2");
        value("(height '((a)))", "2");
        value("(height '((a) . (b)))", "2");
        value("(height '(((a)) b))", "3");
        value("(height '((a) b c))", "3");
        value("(height '(" + "a ".repeat(900) + "))", "900");
    }

    private static void logic() {
        Tester.sentence(TWO, "if: the second one if the first one isn't nil, else the third one");
        value("(if 0 1 2)", "1");
        value("(if 'nil 1 2)", "2");
        Tester.sentence(TWO, "not t of nil, else nil; implies nil when the first one isn't nil and the second one is, else t");
        value("(not nil)", "t");
        value("(not 0)", "nil");
        value("(implies 0 nil)", "nil");
        value("(implies 0 0)", "t");
        value("(implies nil nil)", "t");
        value("(implies nil 0)", "t");
        Tester.sentence(TWO, "equal t or nil; cons a pair");
        value("(equal '(a . b) (cons 'a 'b))", "t");
        value("(equal '(a . b) '(a b))", "nil");
        value("(equal 0 nil)", "nil");
    }

    private static void numbers() {
        Tester.sentence(TWO, "+ - < of naturals, all else counting as 0: the sum; the difference, 0 at least; t or nil");
        value("(- 5 5)", "0");
        value("(- 5 6)", "0");
        value("(- 6 5)", "1");
        value("(- 0 " + GREATEST + ")", "0");
        value("(- " + GREATEST + " 0)", GREATEST);
        value("(< 5 5)", "nil");
        value("(< 5 6)", "t");
        value("(< 0 " + GREATEST + ")", "t");
        value("(< " + GREATEST + " 0)", "nil");
        for (String zero : new String[] {"nil", "t", "'a", "'(7)"}) {
            value("(+ " + zero + " 3)", "3");
            value("(- 3 " + zero + ")", "3");
            value("(- " + zero + " 3)", "0");
            value("(< " + zero + " 1)", "t");
            value("(< 0 " + zero + ")", "nil");
        }
    }

    private static void tooGreat() {
        Tester.sentence(TWO, "A sum above 2^62 - 1 is TOO GREAT");
        value("(+ " + GREATEST + " 0)", GREATEST);
        value("(+ 4611686018427387902 1)", GREATEST);
        value("(+ 2305843009213693951 2305843009213693952)", GREATEST);
        value("(+ " + GREATEST + " '(1))", GREATEST);
        new Tester().unworked("(eval (+ " + GREATEST + " 1))", 3, 1);
        new Tester().unworked("(eval (+ 1 " + GREATEST + "))", 3, 1);
        new Tester().unworked("(eval (+ 2305843009213693952 2305843009213693952))", 3, 1);
        new Tester().unworked("(eval (+ " + GREATEST + " " + GREATEST + "))", 3, 1);
        new Tester().unworked("(eval (- (+ " + GREATEST + " 1) 1))", 3, 2);
    }

    private static void sizeOfTexts() {
        Tester.sentence(TWO, "A term of a TEXT has a SIZE of at most 120");
        Tester t = new Tester();
        String last = Texts.sized(120, "x");
        String first = Texts.sized(121, "x");
        t.due("(simplify " + last + ")", 0, last, 120).due("(simplify " + first + ")", 2, "", 0);
        t.due("(eval (natp " + Texts.sized(119, "1") + "))", 0, "nil");
        t.due("(eval (natp " + Texts.sized(120, "1") + "))", 2, "");
        t.due("(prove " + last + ")", 6, "((" + last + "))", 120).due("(prove " + first + ")", 2, "");
        t.done("(defun f (x) " + last + ")").due("(defun g (x) " + first + ")", 2, "");
        // (< M2 M) has both of them, so an M of 120 is TOO BIG, but it is one.
        String body = "(defun h (x) (if (consp x) (h (cdr x)) 1) ";
        t.unworked(body + last + ")", 4, 0).due(body + first + ")", 2, "");
        t.done("(defthm a (if x t t))").due("(defthm b " + first + ")", 2, "");
        t.unworked("(prove t (use a (x " + last + ")))", 4, 0).due("(prove t (use a (x " + first + ")))", 2, "");
        t.due("(check b " + last + " (same 1))", 7, "((equal 1 1))").due("(check b " + first + " (same 1))", 2, "");
        t.due("(check b t (weak (" + last + ") (same 1)))", 7, "((equal 1 1) " + last + ")");
        t.due("(check b t (weak (" + first + ") (same 1)))", 7, "(weak (" + first + ") (same 1))");
        t.unworked("(check b t (same " + last + "))", 4, 1).due("(check b t (same " + first + "))", 7, "(same " + first + ")");
        t.due("(check b t (inst (taut y) (x " + last + ")))", 7, "(y (not y))");
        t.due("(check b t (inst (taut y) (x " + first + ")))", 7, "(inst (taut y) (x " + first + "))");
    }

    private static void sizeOfConstants() {
        Tester.sentence(TWO, "The SIZE of a term is how many variables, constants and calls it has (each as often as "
                + "it stands)");
        Tester t = new Tester();
        String great = "'(" + "a b ".repeat(150) + ")";
        t.due("(eval (car " + great + "))", 0, "a");
        // 59 calls of cons have 60 terms that are none; not one more.
        t.due("(eval (car " + consOf("'(a b)", 60) + "))", 0, "(a b)");
        t.due("(eval (car (car " + consOf("'(a b)", 60) + ")))", 2, "");
        t.done("(defun k () 1)");
        t.due("(simplify (car " + consOf("(k)", 60) + "))", 0, "1");
        t.due("(simplify (car (car " + consOf("(k)", 60) + ")))", 2, "");
    }

    /** Calls of cons with so many terms that are none; the first of them is the car of the whole. */
    private static String consOf(String term, int count) {
        return count == 1 ? term : "(cons " + term + " " + balanced(term, count - 1) + ")";
    }

    private static String balanced(String term, int count) {
        return count == 1 ? term : "(cons " + balanced(term, count / 2) + " " + balanced(term, count - count / 2) + ")";
    }

    private static void madeInstances() {
        Tester.sentence(TWO, MADE);
        Tester t = new Tester();
        t.done("(defun w (x) (cons x x))").done("(defun v (x) (car (cons x x)))").done("(defun c (x) 1)");
        // The body's instance has twice the SIZE and one more, or two.
        String fiftyNine = Texts.sized(59, "y");
        t.due("(simplify (w " + fiftyNine + "))", 0, "(cons " + fiftyNine + " " + fiftyNine + ")", 1 + 59 + 119);
        t.unworked("(simplify (w " + Texts.sized(60, "y") + "))", 4, 1 + 60);
        t.due("(simplify (v " + fiftyNine + "))", 0, fiftyNine, 1 + 59 + 120);
        // A RULE's right side, and a HYPOTHESIS, which comes ahead of it.
        t.done("(defthm r (equal (c x) (car (cons 1 (cons x x)))))");
        String fiftyEight = Texts.sized(58, "y");
        t.due("(simplify (c " + fiftyEight + "))", 0, "1", 1 + 58 + 1 + 120);
        t.unworked("(simplify (c " + fiftyNine + "))", 4, 1 + 59 + 1);
        t.done("(undo)").done("(defthm r (implies (consp (cons x x)) (equal (c x) 1)))");
        t.due("(simplify (c " + fiftyNine + "))", 0, "1", 1 + 59 + 1 + 120 + 1);
        t.unworked("(simplify (c " + Texts.sized(60, "y") + "))", 4, 1 + 60 + 1);
        // The first term of a body that calls itself, and then the second or third one.
        t.done("(defun q (x) (if (consp (cons x x)) 1 (q (cdr x))) (height x))");
        t.due("(simplify (q " + fiftyNine + "))", 0, "1", 1 + 59 + 120 + 1);
        t.unworked("(simplify (q " + Texts.sized(60, "y") + "))", 4, 1 + 60);
        // A theorem's F, F with a call's terms, an instance in a PROOF.
        t.done("(defthm e (equal x x))");
        Tester.same("an F of 119, its NOT of 120", t.run("(prove z (use e (x " + fiftyNine + ")))"), 6);
        t.unworked("(prove z (use e (x " + Texts.sized(60, "y") + ")))", 4, 0);
        t.due("(check n t (inst (taut (cons x x)) (x " + Texts.sized(60, "y") + ")))", 4, "", 2);
        Tester.same("one of 119 and its NOT", t.run("(check n t (inst (taut (cons x x)) (x " + fiftyNine + ")))"), 7);
        t.due("(check n t (put (same x) (taut x)))", 7, "(x (not x))", 3);
    }

    private static void madeCalls() {
        Tester.sentence(TWO, MADE);
        Tester t = new Tester();
        // (if A (if B t nil) t) has four more than (implies A B).
        String last = "(implies " + Texts.sized(57, "x") + " " + Texts.sized(58, "x") + ")";
        Tester.same("an if of 120", t.run("(simplify " + last + ")"), 0);
        t.unworked("(simplify (implies " + Texts.sized(58, "x") + " " + Texts.sized(58, "x") + "))", 4, 1);
        // (if (equal A C) (equal B D) nil) has one more than (equal (cons A B) (cons C D)).
        String sum = "(+ x " + Texts.sized(55, "x") + ")";
        t.due("(simplify (equal (cons a " + sum + ") (cons b " + Texts.sized(57, "y") + ")))", 0,
                "(if (equal a b) (equal " + sum + " " + Texts.sized(57, "y") + ") nil)", 119 + 120);
        t.unworked("(simplify (equal (cons a " + sum + ") (cons b " + Texts.sized(58, "y") + ")))", 4, 120);
        // The call of what its terms came out as: w makes 2 n + 1 of n.
        t.done("(defun w (x) (cons x x))");
        String w = "(w " + Texts.sized(29, "y") + ")";
        int ofW = 1 + 29 + 59;
        Tester.same("cons of 119", t.run("(simplify (cons " + w + " " + w + "))"), 0);
        Tester.same("height of it", t.run("(simplify (height (cons " + w + " " + w + ")))"), 0);
        t.unworked("(simplify (car (height (cons " + w + " " + w + "))))", 4, 3 + 2 * ofW);
        t.unworked("(simplify (cons (cons " + w + " " + w + ") z))", 4, 2 + 2 * ofW + 1);
        // What comes of an if.
        t.due("(simplify (if z " + w + " " + Texts.sized(59, "x") + "))", 0, "(if z (cons " + Texts.sized(29, "y") + " "
                + Texts.sized(29, "y") + ") " + Texts.sized(59, "x") + ")", 2 + ofW + 59);
        t.unworked("(simplify (if z " + w + " " + Texts.sized(60, "x") + "))", 4, 2 + ofW + 60);
        // (equal L L), and a defined call with its body.
        t.due("(check n t (same " + Texts.sized(59, "y") + "))", 7,
                "((equal " + Texts.sized(59, "y") + " " + Texts.sized(59, "y") + "))", 1);
        t.unworked("(check n t (same " + Texts.sized(60, "y") + "))", 4, 1);
        t.done("(defun big (x) " + Texts.sized(117, "x") + ")");
        t.due("(check n t (def big))", 7, "((equal (big x) " + Texts.sized(117, "x") + "))", 1);
        t.done("(undo)").done("(defun big (x) " + Texts.sized(118, "x") + ")").unworked("(check n t (def big))", 4, 1);
        // (< M2 M), of 60, 59 and one; of 61, 59 and one. With a RULER it is in a CONTEXT, so that NOT it is made, too.
        Tester.same("(< M2 M) of 120", t.run("(defun m (x) (m (car x)) " + oneIn(59) + ")"), 5);
        t.unworked("(defun m (x) (m (car (car x))) " + oneIn(59) + ")", 4, 0);
        Tester.same("(< M2 M) of 119", t.run("(defun m (x) (if (consp x) (m (cons x 1)) 1) " + oneIn(58) + ")"), 5);
        t.unworked("(defun m (x) (if (consp x) (m (car x)) 1) " + oneIn(59) + ")", 4, 0);
    }

    /** A term with this SIZE in which x stands once. */
    private static String oneIn(int size) {
        return "(cons x " + Texts.sized(size - 2, "1") + ")";
    }

    private static void madeNots() {
        Tester.sentence(TWO, MADE);
        Tester t = new Tester();
        // NOT of a literal in the CONTEXT of another one.
        t.done("(defthm a (if x t t))");
        String last = Texts.sized(119, "y");
        Tester.same("NOT of 119", t.run("(prove " + last + " (use a))"), 6);
        t.unworked("(prove " + Texts.sized(120, "y") + " (use a))", 4, 0);
        // Of one that stands alone no NOT is made.
        t.due("(prove " + Texts.sized(120, "y") + ")", 6, "((" + Texts.sized(120, "y") + "))", 120);
        // NOT A is made behind B.
        String test = Texts.sized(117, "y");
        t.due("(simplify (if " + test + " z y))", 0, "(if " + test + " z y)", 1 + 117 + 2);
        t.due("(check n t (taut " + last + "))", 7, "(" + last + " (not " + last + "))", 1);
        t.unworked("(check n t (taut " + Texts.sized(120, "y") + "))", 4, 1);
        t.unworked("(check n t (yes " + last + " 1 2))", 4, 1);
        // (not (not Y)) of Y: none is made.
        t.due("(check n t (taut (not " + last + ")))", 7, "((not " + last + ") " + last + ")", 1);
        // NOT the theorem's F.
        t.done("(defthm b (implies x x))");
        Tester.same("an F of 119", t.run("(prove z (use b (x " + Texts.sized(59, "y") + ")))"), 4);
        Tester.same("it can't be REWRITTEN", t.house.steps(), 2);
        t.done("(undo)").done("(defthm b (if x t t))");
        Tester.same("an F of 119", t.run("(prove z (use b (x " + Texts.sized(116, "y") + ")))"), 6);
        t.unworked("(prove z (use b (x " + Texts.sized(117, "y") + ")))", 4, 0);
    }

    private static void nots() {
        Tester.sentence(TWO, "NOT X is Y if X is (not Y); t if X is nil; nil if X is another constant; else (not X)");
        Tester t = new Tester();
        String[] terms = {"(not x)", "(not (not x))", "nil", "t", "0", "'a", "'(nil)", "x", "(car x)", "(not nil)"};
        String[] dues = {"x", "(not x)", "t", "nil", "nil", "nil", "nil", "(not x)", "(not (car x))", "nil"};
        for (int k = 0; k < terms.length; k++) {
            t.due("(check n (equal z z) (taut " + terms[k] + "))", 7, "(" + terms[k] + " " + dues[k] + ")", 1);
        }
    }

    private static void booleans() {
        Tester.sentence(TWO, "BOOLEAN are t, nil, and calls of equal, implies, <, consp, natp, symbolp, not");
        Tester t = new Tester();
        t.done("(defun p (x) (if (consp x) (p (cdr x)) t) (height x))");
        for (String yes : new String[] {"(equal x y)", "(< x y)", "(consp x)", "(natp x)", "(symbolp x)"}) {
            t.due("(simplify (if " + yes + " t nil))", 0, yes);
            t.due("(simplify (if " + yes + " " + yes + " z))", 0, "(if " + yes + " t z)");
        }
        for (String no : new String[] {"x", "(car x)", "(cdr x)", "(cons x y)", "(+ x y)", "(- x y)", "(height x)", "(p x)"}) {
            t.due("(simplify (if " + no + " t nil))", 0, "(if " + no + " t nil)");
            t.due("(simplify (if " + no + " " + no + " z))", 0, "(if " + no + " " + no + " z)");
        }
        t.due("(simplify (not (not (not x))))", 0, "(not x)").due("(simplify (not (not (car x))))", 0, "(not (not (car x)))");
        t.due("(simplify (not (not (natp x))))", 0, "(natp x)");
    }

    private static void fuels() {
        Tester.sentence(THREE, "Each command has FUEL, 1 .. 1000 (1000 at first), for its STEPS");
        Tester t = new Tester();
        Tester.same("fuel 0", t.house.fuel(0), -1);
        Tester.same("fuel 1001", t.house.fuel(1001), -1);
        Tester.same("1000 at first", t.house.fuel(1), 1000);
        t.due("(eval (not t))", 0, "nil", 1).due("(eval (not t))", 0, "nil", 1).unworked("(eval (not (not t)))", 1, 1);
        t.due("(eval 5)", 0, "5", 0);
        Tester.same("fuel 1000", t.house.fuel(1000), 1);
        Tester.same("it was 1000", t.house.fuel(1000), 1000);
    }

    private static void outOfFuel() {
        Tester.sentence(THREE, "1 OUT OF FUEL (a STEP more than FUEL)");
        Tester t = new Tester();
        t.done(DOWN);
        // (down n) makes 4 n + 3 STEPS.
        String thousand = Texts.chain("car", 5, "(cons (down 124) (down 123))");
        t.due("(eval " + thousand + ")", 0, "nil", 5 + 1 + 499 + 495);
        t.unworked("(eval (car " + thousand + "))", 1, 1000);
        for (int fuel : new int[] {1, 2, 54, 55, 56, 57, 999, 1000}) {
            t.house.fuel(fuel);
            if (fuel < 55) {
                t.unworked("(eval (down 13))", 1, fuel);
            } else {
                t.due("(eval (down 13))", 0, "0", 55);
            }
        }
        t.house.fuel(119);
        t.due("(simplify " + Texts.sized(119, "x") + ")", 0, Texts.sized(119, "x"), 119);
        t.unworked("(simplify " + Texts.sized(120, "x") + ")", 1, 119);
        t.due("(prove " + Texts.sized(119, "x") + ")", 6, "((" + Texts.sized(119, "x") + "))", 119);
        t.house.fuel(2);
        t.due("(check a (equal x x) (swap (same x)))", 0, "", 2).unworked("(check b (equal x x) (swap (swap (same x))))", 1, 2);
    }

    private static void asTheyCome() {
        Tester.sentence(THREE, "FAULTS OF WORK, as they come");
        Tester t = new Tester();
        t.unworked("(eval (cons (+ " + GREATEST + " 1) (car 1)))", 3, 2);
        t.house.fuel(2);
        t.unworked("(eval (cons (+ " + GREATEST + " 1) (car 1)))", 3, 2);
        t.unworked("(eval (cons (car 1) (+ " + GREATEST + " 1)))", 1, 2);
        t.house.fuel(1);
        t.unworked("(eval (cons (+ " + GREATEST + " 1) (car 1)))", 1, 1);
        // TOO BIG ahead of the STEP that would be one too much, and behind it.
        t.done("(defun w (x) (cons x x))");
        t.house.fuel(61);
        t.unworked("(simplify (w " + Texts.sized(60, "y") + "))", 4, 61);
        t.house.fuel(60);
        t.unworked("(simplify (w " + Texts.sized(60, "y") + "))", 1, 60);
    }

    private static void changesNothing() {
        Tester.sentence(THREE, "A command that has one changes nothing");
        Tester t = new Tester();
        t.done("(defun w (x) (cons x x))").done("(defun c (x) 1)").done("(defthm r (equal (c x) 1))").done("(off r)");
        t.house.fuel(3);
        t.unworked("(defun f (x) (if (consp x) (f (cdr x)) 1) (height x))", 1, 3);
        t.unworked("(defthm a (equal (w x) (cons x x)))", 1, 3).unworked("(prove (equal (w x) (cons x x)) (off r))", 1, 3);
        t.unworked("(check a (equal x x) (swap (swap (swap (same x)))))", 1, 3);
        t.house.fuel(1000);
        t.unworked("(defthm a (w " + Texts.sized(60, "y") + "))", 4, 61);
        Tester.same("functions", t.house.count(0), 2);
        Tester.same("theorems", t.house.count(1), 1);
        Tester.same("RULES", t.house.count(2), 1);
        Tester.same("ON", t.house.count(3), 0);
        Tester.same("LEFT", t.house.count(4), 0);
        Tester.same("taken", t.house.taken(3), 0);
        t.due("(eval (f 1))", 2, "").due("(check z t (thm a))", 7, "(thm a)").due("(prove x (use a))", 3, "");
        t.done("(on r)").done("(undo)").done("(undo)").done("(undo)").due("(undo)", 3, "");
    }

    private static void stepsOfValues() {
        Tester.sentence(THREE, "a variable's value; a constant's; of a call one STEP, then of if the first one, "
                + "and the second or third one alone; of others all from the left");
        Tester t = new Tester();
        t.due("(eval '(a))", 0, "(a)", 0).due("(eval (car '(a)))", 0, "a", 1);
        t.due("(eval (if t (car 1) (+ " + GREATEST + " 1)))", 0, "nil", 2);
        t.due("(eval (if nil (+ " + GREATEST + " 1) (car 1)))", 0, "nil", 2);
        t.unworked("(eval (if (+ " + GREATEST + " 1) 1 2))", 3, 2);
        // implies asks both.
        t.unworked("(eval (implies nil (+ " + GREATEST + " 1)))", 3, 2);
        t.unworked("(eval (cons (car 1) (cons (+ " + GREATEST + " 1) (car 2))))", 3, 4);
        t.done("(defun two (x y) y)").due("(eval (two (car 1) (two 1 2)))", 0, "2", 3);
        Tester.sentence(THREE, "then the value, of a DEFINED function that of its body, its parameters having these");
        // Each call's parameters are its own again behind those of a call within it.
        t.done("(defun in (p q) (cons (two q 2) (cons p (cons (two p q) (cons q p)))))");
        t.due("(eval (in 7 (in 8 9)))", 0, "(2 7 (2 8 9 9 . 8) (2 8 9 9 . 8) . 7)", 2 * 7);
        t.due("(eval (cons (in 1 2) (two 3 4)))", 0, "((2 1 2 2 . 1) . 4)", 1 + 7 + 1);
    }

    private static void calls() {
        Tester.sentence(THREE, "A call that is begun within 300 others that are not ended is TOO DEEP (asked ahead of "
                + "its STEP)");
        Tester t = new Tester();
        t.done("(defun low (n) (if (< 0 n) (low (- n 1)) n) n)");
        // (low n) ends in a variable: its last call is a <, within n + 1 of low and n + 1 of if.
        t.due("(eval (low 148))", 0, "0", 4 * 148 + 3);
        t.due("(eval (car (low 148)))", 0, "nil", 1 + 4 * 148 + 3);
        t.unworked("(eval (car (car (low 148))))", 2, 2 + 4 * 148 + 2);
        t.unworked("(eval (low 149))", 2, 4 * 149 + 2);
        // It is asked ahead of its STEP, for which there would be no FUEL.
        t.house.fuel(4 * 149 + 2);
        t.unworked("(eval (low 149))", 2, 4 * 149 + 2);
        t.house.fuel(4 * 149 + 1);
        t.unworked("(eval (low 149))", 1, 4 * 149 + 1);
        t.house.fuel(1000);
        // What has ended doesn't count.
        t.due("(eval (cons (low 120) (low 120)))", 0, "(0 . 0)", 1 + 2 * (4 * 120 + 3));
    }
}
