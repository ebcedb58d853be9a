/** Promises 5 to 7, REWRITING: simplify, what comes out and in how many STEPS. */
public final class SimplifyTest {
    /** Of (f (cons 3 y)): f, cons, 3, y, then in its body if, consp of cons, if, natp of car of cons, car of cons. */
    private static final int OF_F = 4 + 1 + 4 + 1 + 5 + 4;

    public static void main(String[] args) {
        constantsAndVariables();
        ifs();
        impliesAndNot();
        computed();
        reduced();
        lookedUp();
        rules();
        hypotheses();
        turningRules();
        smaller();
        unfolded();
        depthAndSize();
        Tester.finish();
    }

    private static void simple(String term, String told, int steps) {
        new Tester().due("(simplify " + term + ")", 0, told, steps);
    }

    private static void constantsAndVariables() {
        simple("5", "5", 1);
        simple("'5", "5", 1);
        simple("'a", "'a", 1);
        simple("x", "x", 1);
        new Tester().due("(simplify (foo x))", 2, "", 0).due("(simplify)", 2, "", 0).due("(simplify x y)", 2, "", 0);
    }

    private static void ifs() {
        simple("(if t x y)", "x", 3);
        simple("(if nil x y)", "y", 3);
        simple("(if 7 x y)", "x", 3);
        simple("(if x y z)", "(if x y z)", 4);
        simple("(if x y y)", "y", 4);
        simple("(if x t nil)", "(if x t nil)", 4);
        simple("(if (consp x) t nil)", "(consp x)", 5);
        simple("(if x nil t)", "(not x)", 4);
        simple("(if (not x) y z)", "(if x z y)", 5);
        simple("(if (not (consp x)) nil t)", "(consp x)", 6);
        // Within the branches the test holds, or doesn't; for its VALUE that x isn't nil tells nothing.
        simple("(if x x y)", "(if x x y)", 4);
        simple("(if x y x)", "(if x y nil)", 4);
        simple("(if x (if x y z) y)", "y", 6);
        simple("(if (consp x) (consp x) y)", "(if (consp x) t y)", 6);
        simple("(if (if x t nil) y z)", "(if x y z)", 7);
        simple("(if (if x y nil) 1 2)", "(if (if x y nil) 1 2)", 7);
        simple("(if x 1 2)", "(if x 1 2)", 4);
        simple("(if (if x 1 2) y z)", "y", 6);
    }

    private static void impliesAndNot() {
        simple("(implies x y)", "(if x (if y t nil) t)", 8);
        simple("(implies x (consp y))", "(if x (consp y) t)", 9);
        simple("(implies x x)", "t", 7);
        simple("(implies nil x)", "t", 4);
        simple("(implies t (consp x))", "(consp x)", 8);
        simple("(not x)", "(not x)", 2);
        simple("(not nil)", "t", 2);
        simple("(not 5)", "nil", 2);
        simple("(not (not x))", "(not (not x))", 3);
        simple("(not (not (consp x)))", "(consp x)", 4);
        simple("(not (not (not x)))", "(not x)", 4);
        simple("(if (not (not x)) y z)", "(if x y z)", 6);
        simple("(not (if x nil t))", "(not (not x))", 5);
        simple("(if (not x) (not x) y)", "(if x y t)", 6);
    }

    private static void computed() {
        simple("(+ 1 (+ 2 3))", "6", 5);
        simple("(car '(1 2))", "1", 2);
        simple("(cdr '(1 2))", "'(2)", 2);
        simple("(cons 1 '(2))", "'(1 2)", 3);
        simple("(equal 'a 'b)", "nil", 3);
        simple("(height '((a)))", "2", 2);
        simple("(+ 4611686018427387903 1)", "(+ 4611686018427387903 1)", 3);
        simple("(cons (+ 4611686018427387903 1) 'a)", "(cons (+ 4611686018427387903 1) 'a)", 5);
        Tester t = new Tester();
        t.done("(defun len (x) (if (consp x) (+ 1 (len (cdr x))) 0) (height x))");
        t.due("(simplify (len '(a b)))", 0, "2", 2 + 13);
        t.done("(defun k () 7)");
        t.due("(simplify (k))", 0, "7", 2);
        t.done("(defun down (n) (if (< 0 n) (down (- n 1)) 0) n)");
        // Evaluating (down n) makes 4 n + 3 STEPS; above 100 it can't be, and down is opened once.
        t.due("(simplify (down 24))", 0, "0", 2 + 99);
        t.house.fuel(200);
        t.unworked("(simplify (down 25))", 1, 200);
        t.house.fuel(60);
        t.unworked("(simplify (down 24))", 1, 60);
        t.house.fuel(1000);
        t.done("(defun big (n) (if (< 0 n) (+ 4611686018427387903 (big (- n 1))) 0) n)");
        t.due("(simplify (big 1))", 0, "4611686018427387903", 2 + 8);
        // The evaluation of (big 2) ends with a sum that is TOO GREAT, behind 13 STEPS: then it is opened.
        t.due("(simplify (big 2))", 0, "(+ 4611686018427387903 4611686018427387903)", 2 + 13 + 3 + 2 + 4 + 8);
    }

    private static void reduced() {
        simple("(equal x x)", "t", 3);
        simple("(equal (car x) (car x))", "t", 5);
        simple("(equal (cons x y) nil)", "nil", 5);
        simple("(equal 'a (cons x y))", "nil", 5);
        simple("(equal 5 (cons x y))", "nil", 5);
        simple("(equal (cons x y) '(1))", "(equal (cons x y) '(1))", 5);
        simple("(equal (cons x y) (cons x z))", "(equal y z)", 7 + 1 + 3 + 3);
        simple("(equal (cons x 1) (cons y 2))", "nil", 7 + 1 + 3 + 3 + 1);
        simple("(equal x y)", "(equal x y)", 3);
        simple("(car (cons x y))", "x", 4);
        simple("(cdr (cons x y))", "y", 4);
        simple("(car x)", "(car x)", 2);
        simple("(consp (cons x y))", "t", 4);
        simple("(natp (cons x y))", "nil", 4);
        simple("(symbolp (cons x y))", "nil", 4);
        simple("(natp (+ x y))", "t", 4);
        simple("(natp (- x y))", "t", 4);
        simple("(natp (height x))", "t", 3);
        simple("(consp (+ x y))", "nil", 4);
        simple("(consp (- x 1))", "nil", 4);
        simple("(symbolp (height x))", "nil", 3);
        simple("(natp (car x))", "(natp (car x))", 3);
        simple("(height (cons x y))", "(height (cons x y))", 4);
        simple("(< x x)", "nil", 3);
        simple("(< x 0)", "nil", 3);
        simple("(< x nil)", "(< x nil)", 3);
        simple("(< 0 x)", "(< 0 x)", 3);
        simple("(< (height (car x)) (height x))", "(consp x)", 6 + 2);
        simple("(< (height (cdr x)) (height x))", "(consp x)", 6 + 2);
        simple("(< (height (car y)) (height x))", "(< (height (car y)) (height x))", 6);
        simple("(< (height x) (height (car x)))", "(< (height x) (height (car x)))", 6);
        simple("(< (- x 1) x)", "(< 0 x)", 5 + 3);
        simple("(< (- x 5) x)", "(< 0 x)", 5 + 3);
        simple("(< (- x 0) x)", "(< (- x 0) x)", 5);
        simple("(< (- x y) x)", "(< (- x y) x)", 5);
        simple("(< (- x 'a) x)", "(< (- x 'a) x)", 5);
        simple("(< (- y 1) x)", "(< (- y 1) x)", 5);
    }

    private static void lookedUp() {
        simple("(if (equal x 5) (cons x 1) x)", "(if (equal x 5) '(5 . 1) x)", 1 + 3 + 3 + 1);
        simple("(if (equal 5 x) x 0)", "(if (equal 5 x) 5 0)", 1 + 3 + 1 + 1);
        simple("(if (equal x y) x 0)", "(if (equal x y) x 0)", 1 + 3 + 1 + 1);
        // The first of two that tell a constant.
        simple("(if (equal x 5) (if (equal 6 x) x 1) 2)", "(if (equal x 5) 1 2)", 1 + 3 + 1 + 3 + 1 + 1);
        simple("(if (equal (car x) 5) (if (equal (car x) y) (car x) 1) 2)",
                "(if (equal (car x) 5) (if (equal 5 y) 5 1) 2)", 1 + 4 + 1 + 4 + 2 + 1 + 1);
        simple("(if (consp x) (equal (consp x) y) z)", "(if (consp x) (equal t y) z)", 1 + 2 + 4 + 1);
        simple("(if (car x) (cons (car x) 1) (car x))", "(if (car x) (cons (car x) 1) nil)", 1 + 2 + 4 + 2);
        simple("(if (car x) (if (car x) 1 2) 3)", "(if (car x) 1 3)", 1 + 2 + 1 + 2 + 1 + 1);
        simple("(if (not x) (cons x x) 1)", "(if x 1 '(nil))", 1 + 2 + 1 + 3);
        // (not x) as a whole: BOOLEAN, so t where it stands in the CONTEXT.
        simple("(if (not (consp x)) (cons (not (consp x)) y) z)", "(if (consp x) z (cons t y))", 1 + 3 + 1 + 1 + 3 + 1);
    }

    private static Tester constantFunctions() {
        Tester t = new Tester();
        t.done("(defun p (x y) 3)").done("(defun q (x) t)").done("(defun c (x) 3)");
        return t;
    }

    private static void rules() {
        Tester t = constantFunctions();
        t.done("(defthm r1 (equal (p x 1) (c x)))");
        // p, y, 1, the match, then (c y): c, y, 3.
        t.due("(simplify (p y 1))", 0, "3", 3 + 1 + 3);
        t.due("(simplify (p y 2))", 0, "3", 3 + 1);
        t.done("(off r1)").due("(simplify (p y 1))", 0, "3", 3 + 1);
        t.done("(on r1)").due("(simplify (p y 1))", 0, "3", 7);
        // The latest one comes first; a variable that stands twice stands for the same.
        t.done("(defthm r2 (equal (p x x) 3))");
        t.due("(simplify (p 1 1))", 0, "3", 3 + 1);
        t.due("(simplify (p y y))", 0, "3", 3 + 1 + 1);
        t.due("(simplify (p (car z) (car z)))", 0, "3", 5 + 1 + 1);
        t.due("(simplify (p y z))", 0, "3", 3 + 1);
        // For the TRUTH alone: not looked at where the VALUE is wanted.
        t.done("(defthm r3 (c x))");
        t.due("(simplify (c y))", 0, "3", 3);
        t.due("(simplify (if (c y) 1 2))", 0, "1", 1 + 2 + 1 + 1 + 1);
        // BOOLEAN, so for the VALUE too.
        t.done("(defthm r4 (natp (c x)) (off r3))");
        t.due("(simplify (cons (natp (c y)) 1))", 0, "'(t . 1)", 1 + 1 + 3 + 1);
        // (not L).
        t.done("(defthm r5 (not (consp (p x y))))").done("(defthm r6 (not (equal (q x) 4)))");
        t.due("(simplify (equal (q y) 4))", 0, "nil", 1 + 3 + 1);
        Tester.same("RULES", t.house.count(2), 6);
    }

    private static void hypotheses() {
        Tester t = new Tester();
        t.done("(defun p (x y) 3)").done("(defun f (x) (if (consp x) (if (natp (car x)) (car x) 3) 3))");
        t.done("(defthm r1 (implies (consp x) (equal (p x y) (f (cons 3 y)))))");
        // Its HYPOTHESIS holds of a call of cons: (consp (cons 1 z)) is four STEPS.
        t.due("(simplify (p (cons 1 z) y))", 0, "3", 1 + 3 + 1 + 1 + 4 + OF_F);
        // Not of a variable; what was asked is paid, and the function is opened.
        t.due("(simplify (p x y))", 0, "3", 3 + 1 + 2 + 1);
        // It holds where the CONTEXT says so.
        t.due("(simplify (if (consp x) (p x y) 3))", 0, "3", 1 + 2 + 3 + 1 + 2 + OF_F + 1);
        t.done("(defthm r2 (implies (if (natp x) (if (natp y) t nil) nil) (implies (natp z) (equal (p (cons x y) z) 3))))");
        // Four HYPOTHESES, (natp x), (natp y), t and (natp z). The first one fails, and the RULE ahead is asked.
        t.due("(simplify (p (cons a b) c))", 0, "3", 5 + 1 + 2 + 1 + 4 + OF_F);
        t.done("(off r1)");
        t.due("(simplify (p (cons 1 b) 2))", 0, "3", 5 + 1 + 2 + 2 + 1);
        t.due("(simplify (p (cons 1 (+ b b)) 2))", 0, "3", 7 + 1 + 2 + 4 + 1 + 2 + 1);
    }

    private static void turningRules() {
        Tester t = new Tester();
        t.done("(defun p (x y) 3)").done("(defun w (x y) (p x y))");
        t.done("(defthm turn (equal (p x y) (p y x)))");
        // (p b a) becomes (p a b), since that is SMALLER; then that one not (p b a), so it is opened.
        t.due("(simplify (p b a))", 0, "3", 3 + 1 + 3 + 1 + 1);
        t.due("(simplify (p a b))", 0, "3", 3 + 1 + 1);
        t.due("(simplify (p a a))", 0, "3", 3 + 1 + 1);
        // With naturals all is computed; a constant and a variable.
        t.due("(simplify (p x 1))", 0, "3", 3 + 1 + 3 + 1 + 1);
        t.due("(simplify (p 1 x))", 0, "3", 3 + 1 + 1);
        // The other way of naming them is a RULE that turns, too; a RULE with other sides isn't.
        t.done("(defthm deep (equal (p (car x) (cdr y)) (p (car y) (cdr x))))");
        t.due("(simplify (p (car a) (cdr b)))", 0, "3", 5 + 1 + 1 + 1);
        t.done("(undo)").done("(undo)");
        t.done("(defthm same (equal (p x y) (p x x)))");
        t.house.fuel(60);
        t.unworked("(simplify (p a b))", 1, 60);
    }

    private static void smaller() {
        Tester t = new Tester();
        t.done("(defun p (x y) 3)").done("(defthm turn (equal (p x y) (p y x)))");
        // Two names of which one is the start of the other: a blank or ) is lower than any letter.
        t.due("(simplify (p aa a))", 0, "3", 3 + 1 + 3 + 1 + 1);
        t.due("(simplify (p a aa))", 0, "3", 3 + 1 + 1);
        // They differ in the 200th character, the first behind sixteen items of the constants; or in the next one.
        String same = "abcdefghijk ".repeat(16);
        t.done("(defun u (x y z) 3)").done("(defthm turnu (equal (u z x y) (u z y x)))");
        t.due("(simplify (u z '(" + same + "y) '(" + same + "x)))", 0, "3", 4 + 1 + 4 + 1 + 1);
        t.due("(simplify (u zz '(" + same + "y) '(" + same + "x)))", 0, "3", 4 + 1 + 1);
        // They differ only behind the 200th character: none is SMALLER.
        String long1 = "'(" + "abcdefghijk ".repeat(17) + "x)";
        String long2 = "'(" + "abcdefghijk ".repeat(17) + "y)";
        t.done("(defun v (x y z) 3)").done("(defthm turn3 (equal (v z x y) (v z y x)))");
        t.due("(simplify (v a b a))", 0, "3", 4 + 1 + 4 + 1 + 1);
        t.due("(simplify (v z (cons a " + long2 + ") (cons a " + long1 + ")))", 0, "3", 8 + 1 + 1);
        t.due("(simplify (v z (cons b " + long2 + ") (cons a " + long1 + ")))", 0, "3", 8 + 1 + 8 + 1 + 1);
    }

    private static void unfolded() {
        Tester t = new Tester();
        t.done("(defun f (x) (if (consp x) 1 2))");
        t.due("(simplify (f x))", 0, "(if (consp x) 1 2)", 2 + 1 + 2 + 1 + 1);
        t.done("(defun app (x y) (if (consp x) (cons (car x) (app (cdr x) y)) y) (height x))");
        t.due("(simplify (app x y))", 0, "(app x y)", 3 + 2);
        t.due("(simplify (app nil y))", 0, "y", 3 + 2 + 1);
        t.due("(simplify (app (cons a b) y))", 0, "(cons a (app b y))", 5 + 4 + 1 + 4 + 1 + 4 + 1 + 2);
        t.due("(simplify (if (consp x) 0 (app x y)))", 0, "(if (consp x) 0 y)", 1 + 2 + 1 + 3 + 2 + 1);
        t.due("(simplify (app '(1) (app '(2) y)))", 0, "(cons 1 (cons 2 y))");
    }

    private static void depthAndSize() {
        Tester t = new Tester();
        t.done("(defun c (x) 5)");
        t.done("(defthm loop (equal (c x) (c (car x))))");
        // (c y) is within none, (c (car y)) within one, .. The 60th term has 58 of car in it: TOO DEEP comes sooner,
        // where the terms of a call go beyond 60.
        t.unworked("(simplify (c y))", 2, loopSteps());
        Tester.same("RULES stay", t.house.count(3), 1);
        t.done("(undo)");
        String deep = "(car ".repeat(37) + "x" + ")".repeat(37);
        t.due("(simplify " + deep + ")", 0, deep, 38);
        t.done("(defun w (x) (cons x (cons x x)))");
        t.due("(simplify (w (w 1)))", 0, "'((1 1 . 1) (1 1 . 1) 1 1 . 1)", 3 + 2 + 4);
        // A body with (w (w (w (w y)))) for x has a SIZE of more than 120.
        t.due("(simplify (w (w y)))", 0, "(cons (cons y (cons y y)) (cons (cons y (cons y y)) (cons y (cons y y))))");
        Tester.same("a term grows TOO BIG", t.run("(simplify (w (w (w (w (w y))))))"), 4);
        Tester.same("its FAULT OF WORK", t.house.fault(2), 4);
        Tester.same("OUT is empty", t.out(), "");
    }

    /** Of each (c (car .. y)), with k of car: c, k + 1 terms in it, and the match, as long as it isn't TOO DEEP. */
    private static int loopSteps() {
        int steps = 0;
        for (int k = 0; ; k++) {
            // The call is within k others, its k of car and y within k + 1 up to 2 k + 1.
            if (2 * k + 1 >= 60) {
                return steps + 60 - k;
            }
            steps += 1 + k + 1 + 1;
        }
    }
}
