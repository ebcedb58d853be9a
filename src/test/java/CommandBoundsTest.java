/** Terms 6, COMMANDS: of each sentence that names a limit the last case that is allowed and the first that isn't. */
public final class CommandBoundsTest {
    private static final String WHERE = "Terms 6";
    private static final String LEN = "(defun len (x) (if (consp x) (+ 1 (len (cdr x))) 0) (height x))";

    public static void main(String[] args) {
        oneOfThese();
        names();
        notAsTold();
        orderOfDefun();
        orderOfTheorems();
        orderOfHints();
        workComesLast();
        emptyOut();
        evalWithoutVariables();
        nothingIsTaken();
        parameters();
        variablesOfBodies();
        measures();
        fortyFunctions();
        flatCalls();
        pathsAndClauses();
        notFalling();
        sixtyTheorems();
        inductHint();
        useHint();
        offHint();
        clausesOfHints();
        takenWithItsRule();
        hypotheses();
        rules();
        noRules();
        onAndOff();
        undo();
        check();
        Tester.finish();
    }

    private static void oneOfThese() {
        Tester.sentence(WHERE, "run() takes a TEXT, one list that is one of these");
        Tester t = new Tester();
        t.done("(defthm a (equal (car (cons x 1)) x))");
        String[] least = {"(eval 1)", "(simplify 1)", "(prove t)", "(defun f () 1)", "(defthm b t)", "(on a)", "(off a)", "(undo)",
            "(check c (equal 1 1) (same 1))"};
        for (String order : least) {
            String open = order.substring(0, order.length() - 1);
            // A dot, two items more, and the command's name alone.
            t.due(open + " . 7)", 2, "", 0).due(open + " 7 7)", 2, "", 0);
            if (!order.equals("(undo)")) {
                t.due(order.substring(0, order.indexOf(' ')) + ")", 2, "", 0);
            }
        }
        t.due("(defthm b)", 2, "").due("(defun f)", 2, "").due("(defun f ())", 2, "").due("(check c)", 2, "");
        t.due("(simplify)", 2, "");
        t.due("(undo 1)", 2, "").due("(undo nil)", 2, "").due("(eval 1 2)", 2, "").due("(simplify 1 2)", 2, "");
        t.due("(on a a)", 2, "").due("(off a a)", 2, "").due("(check c t (same 1) 1)", 2, "").due("(check c t)", 2, "");
        t.due("eval", 2, "").due("5", 2, "").due("()", 2, "").due("'(eval 1)", 2, "").due("((eval 1))", 2, "");
        t.due("(evals 1)", 2, "").due("(nil)", 2, "").due("(5)", 2, "").due("(theorem a t)", 2, "").due("(use a)", 2, "");
        Tester.same("theorems", t.house.count(1), 1);
    }

    private static void names() {
        Tester.sentence(WHERE, "f and n are symbols that are not RESERVED");
        Tester t = new Tester();
        for (String none : new String[] {"5", "'a", "(a)", "()", "nil", "t", "quote", "if", "not"}) {
            t.due("(defun " + none + " (x) x)", 2, "").due("(defthm " + none + " t)", 2, "").due("(on " + none + ")", 2, "");
            t.due("(off " + none + ")", 2, "").due("(check " + none + " (equal 1 1) (same 1))", 2, "");
            t.due("(prove t (use " + none + "))", 2, "").due("(prove t (off " + none + "))", 2, "");
            t.due("(prove t (induct (" + none + " x)))", 2, "");
        }
        t.done("(defun abcdefghijk (x) x)").done("(defthm abcdefghijk t)").done("(defun 1- (x) x)");
        t.done("(defthm ++ t (use abcdefghijk))");
    }

    private static void notAsTold() {
        Tester.sentence(WHERE, "2 it is none of these, or something in it is not as told "
                + "(a term that calls what is no function, or has a SIZE above 120, is none)");
        Tester t = new Tester();
        t.done("(defthm a (equal x x))");
        for (String none : new String[] {"(no 1)", "(car)", "(car 1 1)", "(car . 1)", "(quote)", "(5 1)", Texts.sized(121, "1")}) {
            for (String order : new String[] {"(eval @)", "(simplify @)", "(prove @)", "(defthm b @)", "(check b @ (same 1))",
                "(defun f () @)", "(defun f (x) (if (consp x) (f (cdr x)) @) (height x))", "(defun f (x) (if (consp x) (f (cdr x)) 1) @)",
                "(prove t (use a (x @)))", "(defthm b t (use a (x @)))", "(eval (car @))", "(simplify (if x 1 @))"}) {
                t.due(order.replace("@", none), 2, "", 0);
            }
        }
        Tester.sentence(WHERE, "(simplify T): OUT T REWRITTEN for its VALUE in an empty CONTEXT");
        t.due("(simplify (if x 5 nil))", 0, "(if x 5 nil)", 4).due("(simplify x)", 0, "x", 1).due("(simplify 5)", 0, "5", 1);
        t.due("(prove (if x y 5))", 6, "(((not x) y))").due("(simplify (car x))", 0, "(car x)", 2);
    }

    private static void orderOfDefun() {
        Tester.sentence(WHERE, "8 there is no room (asked in this order, 1, 2, 3, 8)");
        Tester t = new Tester();
        for (int k = 0; k < 39; k++) {
            t.done("(defun f" + k + " (x) x)");
        }
        t.due("(defun f0 (x) y", 1, "").due("(defun f0 (x) y)", 2, "").due("(defun f0 (x) x)", 3, "").done("(defun f39 (x) x)");
        t.due("(defun new (x) y", 1, "").due("(defun new (x) y)", 2, "").due("(defun f0 (x) y)", 2, "");
        t.due("(defun f0 (x) x)", 3, "").due("(defun new (x) x)", 8, "");
        // Neither 5 nor 4 is asked then.
        t.due("(defun new (x) (new x) x)", 8, "", 0).due("(defun f0 (x) (f0 x) x)", 3, "", 0);
        Tester.same("no FAULT OF WORK", t.house.fault(2), 0);
    }

    private static void orderOfTheorems() {
        Tester.sentence(WHERE, "8 there is no room (asked in this order, 1, 2, 3, 8)");
        Tester t = new Tester();
        for (int k = 0; k < 59; k++) {
            t.done("(defthm n" + k + " t)");
        }
        t.due("(defthm n0 (no)", 1, "").due("(defthm n0 (no))", 2, "").due("(defthm n0 nil)", 3, "", 0).done("(defthm n59 t)");
        for (String rest : new String[] {"", " (use n1)", " (off n1)"}) {
            t.due("(defthm new (no)" + rest + ")", 2, "").due("(defthm n0 t" + rest + ")", 3, "");
            t.due("(defthm new t" + rest + ")", 8, "").due("(defthm new nil" + rest + ")", 8, "", 0);
        }
        t.due("(defthm new t (use no))", 3, "").due("(defthm new t (off no))", 3, "");
        t.due("(defthm new t (induct (no x)))", 3, "");
        t.due("(defthm n0 t (hint))", 2, "").due("(defthm new t (use no) (off))", 2, "");
        t.due("(check new (no) (no))", 2, "").due("(check n0 t (no))", 3, "", 0).due("(check new t (no))", 8, "", 0);
    }

    private static void orderOfHints() {
        Tester.sentence(WHERE, "3 a name that is taken, or one that there is not; 8 there is no room (asked in this "
                + "order, 1, 2, 3, 8)");
        Tester t = new Tester();
        t.done(LEN).done("(defthm a (equal x x))");
        // Whatever stands first, what is not as told is asked ahead of names.
        String[] threes = {"(use no)", "(off no)", "(induct (no x))", "(use no (x 1))"};
        String[] twos = {"(use)", "(use a (y 1))", "(use a (x 1) (x 2))", "(use a (x (no)))", "(off)", "(induct (len))",
            "(induct (len x y))", "(induct (car x))", "(hint)", "hint", "(use no (x 1) (x 2))", "(use no (5 1))",
            "(use no (x (no)))", "(induct (no x x))", "(induct (no 5))", "(off no 5)"};
        for (String three : threes) {
            t.due("(prove t " + three + ")", 3, "").due("(defthm b t " + three + ")", 3, "");
            t.due("(defthm a t " + three + ")", 3, "");
            for (String two : twos) {
                t.due("(prove t " + two + ")", 2, "").due("(defthm a t " + two + ")", 2, "");
                if (!two.substring(1, 3).equals(three.substring(1, 3)) || three.startsWith("(use")) {
                    t.due("(prove t " + three + " " + two + ")", 2, "").due("(prove t " + two + " " + three + ")", 2, "");
                }
            }
        }
    }

    private static void workComesLast() {
        Tester.sentence(WHERE, "4 a FAULT OF WORK; 5 a measure that isn't proved to fall; 6 not proved; 7 a PROOF "
                + "that is wrong");
        Tester t = new Tester();
        // The first clause is LEFT; then there is no FUEL for the second one, and nothing is LEFT.
        t.due("(prove (if x y z))", 6, "(((not x) y) (x z))", 9);
        t.house.fuel(8);
        t.unworked("(prove (if x y z))", 1, 8);
        Tester.same("LEFT", t.house.count(4), 0);
        t.unworked("(defun f (x) (cons (f x) (cons (f x) (f x))) 0)", 1, 8);
        t.house.fuel(9);
        t.due("(defun f (x) (cons (f x) (cons (f x) (f x))) 0)", 5, "(nil nil nil)", 9);
        t.house.fuel(1);
        t.due("(check a t (swap 1 2))", 7, "(swap 1 2)", 1).unworked("(check a t (swap (foo)))", 1, 1);
        t.house.fuel(2);
        t.due("(check a t (swap (foo)))", 7, "(foo)", 2);
    }

    private static void emptyOut() {
        Tester.sentence(WHERE, "OUT is empty where nothing else is told");
        Tester t = new Tester();
        String[] orders = {"(eval", "(evil 1)", "(undo)", "(eval (+ 4611686018427387903 1))", "(defun f (x) x)", "(prove t)",
            "(defthm a (equal (f x) x))", "(check b (equal 1 1) (same 1))", "(off a)", "(on a)", "(undo)", "(undo)", "(on a)"};
        int[] answers = {1, 2, 3, 4, 0, 0, 0, 0, 0, 0, 0, 0, 3};
        for (int k = 0; k < orders.length; k++) {
            t.due("(eval 'full)", 0, "full").due(orders[k], answers[k], "");
            Tester.same("letter 0", t.house.letter(0), -1);
        }
    }

    private static void evalWithoutVariables() {
        Tester.sentence(WHERE, "(eval T), T without variables: OUT its value");
        Tester t = new Tester();
        t.due("(eval 'x)", 0, "x").due("(eval x)", 2, "").due("(eval (if t 1 x))", 2, "").due("(eval (car 'x))", 0, "nil");
        t.due("(eval (cons nil t))", 0, "(nil . t)").due("(eval (cons nil quote))", 2, "");
    }

    private static void nothingIsTaken() {
        Tester.sentence(WHERE, "(prove F ..): as defthm without a name, and nothing is taken");
        Tester t = new Tester();
        t.done("(prove (equal (car (cons x y)) x))");
        Tester.same("theorems", t.house.count(1), 0);
        Tester.same("taken", t.house.taken(0), 0);
        t.due("(prove n t)", 2, "").due("(prove x t)", 2, "").due("(undo)", 3, "");
    }

    private static void parameters() {
        Tester.sentence(WHERE, "the x different variables, at most 6");
        Tester t = new Tester();
        String[] all = {"", "a", "a b", "a b c", "a b c d", "a b c d e", "a b c d e f", "a b c d e f g", "a b c d e f g h"};
        for (int k = 0; k < all.length; k++) {
            t.due("(defun f (" + all[k] + ") 1)", k <= 6 ? 0 : 2, "");
            t.due("(eval (f" + " 7".repeat(k) + "))", k <= 6 ? 0 : 2, k <= 6 ? "1" : "");
            t.due("(undo)", k <= 6 ? 0 : 3, "");
        }
        for (String none : new String[] {"(a a)", "(a b c d e a)", "(a nil)", "(t)", "(5)", "((a))", "('a)", "a", "5", "(a . b)",
            "(a b . c)"}) {
            t.due("(defun f " + none + " 1)", 2, "");
        }
        t.done("(defun f nil 1)").done("(undo)").done("(defun f (f) f)").done("(undo)");
        t.done("(defun f (if cons + t1 n1 quote) quote)");
        t.due("(eval (f 1 2 3 4 5 6))", 0, "6");
        Tester.sentence(WHERE, "f being a function of so many terms in it");
        t.due("(defun g (x y) (g x) x)", 2, "").due("(defun g (x y) (g x x x) x)", 2, "");
        t.due("(defun g (x y) (g x x) 0)", 5, "(nil)");
        // The number of terms that a function of that name has already doesn't count.
        t.due("(defun f (x) (f x) x)", 3, "").due("(defun f (x) (f x x x x x x) x)", 2, "");
    }

    private static void variablesOfBodies() {
        Tester.sentence(WHERE, "T with these variables alone, f being a function of so many terms in it; M with these "
                + "variables alone, without f");
        Tester t = new Tester();
        t.done("(defun f (x) 'y)").done("(undo)").due("(defun f (x) y)", 2, "").due("(defun f () x)", 2, "");
        t.due("(defun f (x) (if (consp x) (f (cdr x)) y) (height x))", 2, "");
        t.due("(defun f (x) (if (consp x) (f (cdr x)) x) (height y))", 2, "");
        t.due("(defun f (x) (if (consp x) (f (cdr x)) x) (f x))", 2, "");
        t.due("(defun f (x) (if (consp x) (f (cdr x)) x) f)", 2, "").due("(defun f (x) (g x))", 2, "");
        t.done("(defun f (x) (if (consp x) (f (cdr x)) x) (height x))").due("(defun f (x) (if x (f x) 1) (f x))", 2, "");
        t.done("(defun g (x y) (if (consp x) (g (cdr x) y) (f y)) (height x))");
    }

    private static void measures() {
        Tester.sentence(WHERE, "M is there just when T has calls of f");
        Tester t = new Tester();
        t.due("(defun f (x) x x)", 2, "").due("(defun f (x) (if (consp x) (f (cdr x)) 1))", 2, "");
        t.due("(defun f (x) 'f x)", 2, "").due("(defun f (f) f f)", 2, "").due("(defun f (x) (f x) x x)", 2, "");
        t.due("(defun f (x) '(f x))", 0, "").due("(eval (f 1))", 0, "(f x)");
        t.done("(defun g (x) (if (consp x) (g (cdr x)) 1) (height x))");
    }

    private static void fortyFunctions() {
        Tester.sentence(WHERE, "f is DEFINED already: 3; 40 are: 8");
        Tester t = new Tester();
        for (int k = 0; k < 40; k++) {
            Tester.same("functions", t.house.count(0), k);
            t.done("(defun f" + k + " (x) " + k + ")");
        }
        t.due("(defun g (x) x)", 8, "").due("(defun f39 (x) x)", 3, "");
        Tester.same("functions", t.house.count(0), 40);
        Tester.same("taken 39", t.house.taken(39), 1);
        Tester.same("taken 40", t.house.taken(40), 0);
        t.due("(eval (f39 0))", 0, "39").due("(eval (f0 0))", 0, "0").done("(undo)").due("(eval (f39 0))", 2, "");
        t.done("(defun f39 (x) 1)").due("(defun f40 (x) x)", 8, "").due("(eval (f39 0))", 0, "1");
    }

    private static void flatCalls() {
        Tester.sentence(WHERE, "No RULER has a call of f, nor have the terms of a call of f (else 2)");
        Tester t = new Tester();
        t.due("(defun f (x) (if (f x) 1 2) x)", 2, "").due("(defun f (x) (if x (if (car (f x)) 1 2) 3) x)", 2, "");
        t.due("(defun f (x) (if x 1 (if (f x) 1 2)) x)", 2, "").due("(defun f (x) (f (f x)) x)", 2, "");
        t.due("(defun f (x) (if x (f (car (f x))) 1) x)", 2, "").due("(defun f (x) (cons 1 (f (if x (f x) 1))) x)", 2, "");
        // The first term of an if in an END is no RULER.
        t.due("(defun f (x) (cons 1 (if (f x) 1 2)) 0)", 5, "(nil)");
        t.due("(defun f (x) (if (consp x) (not (if (f (cdr x)) 1 2)) 2) (height x))", 0, "");
        t.due("(defun g (x) (if (f x) (g (cdr x)) 1) 0)", 5, "(((not (f x))))");
    }

    private static void pathsAndClauses() {
        Tester.sentence(WHERE, "For each PATH, for each call (f A ..) in its END, from the left, a clause: NOT each "
                + "RULER, and (< M2 M)");
        Tester t = new Tester();
        // In the third clause y is nil, so both sides are '(nil); in the fourth one x is.
        t.due("(defun f (x y) (if x (if y (cons (f 1 x) (f 2 x)) (f 3 y)) (f 4 x)) (cons y y))", 5,
                "(((not x) (not y) (< (cons x x) (cons y y))) ((not x) (not y) (< (cons x x) (cons y y))) ((not x) y)"
                + " (x (< '(nil) (cons y y))))", 2 * (2 + 2 + 7) + (2 + 1 + 7 + 2 + 1) + (1 + 7 + 1 + 5));
        // The calls in one END from the left, an outer if's third term behind its second.
        t.due("(defun f (x y) (if x (cons (f y 1) (cons (f y 2) (f y 3))) (f y 4)) y)", 5,
                "(((not x) (< 1 y)) ((not x) (< 2 y)) ((not x) (< 3 y)) (x (< 4 y)))");
        Tester.sentence(WHERE, "The PATHS of T: from T through the second and third terms of calls of if to all terms "
                + "that are no such call, "
                + "its ENDS, from the left; the RULERS of one are the first terms of these calls (where it goes through the second one) "
                + "or NOT them, from the outermost on");
        // The first term's own calls of if are on no PATH, nor are those within an END.
        t.due("(defun f (x y) (if (if x y 1) (f x y) 0) 0)", 5, "(((not x) (not y)) (x))");
        t.due("(defun f (x y) (if x (cons 1 (if y (f x y) 2)) 0) 0)", 5, "(((not x)))");
        // One END and no RULER: T is no call of if.
        t.due("(defun f (x) (not (f x)) 0)", 5, "(nil)");
        // RULERS from the outermost on.
        t.due("(defun f (x y z) (if x (if y 0 (if z (f x y z) 0)) 0) 0)", 5, "(((not x) y (not z)))");
    }

    private static void notFalling() {
        Tester.sentence(WHERE, "If TO PROVE these leaves none, f is DEFINED; else 5, OUT the list of the clauses "
                + "LEFT, each a list");
        Tester t = new Tester();
        t.due("(defun f (x) (if (consp x) (f (cdr x)) 1) (height x))", 0, "");
        Tester.same("functions", t.house.count(0), 1);
        t.due("(defun g (x) (if (natp x) (g (cdr x)) 1) (height x))", 5, "(((not (natp x)) (consp x)))");
        Tester.same("functions", t.house.count(0), 1);
        t.due("(defun g (x) (if (< 0 x) (g (- x 1)) 1) x)", 0, "").done("(undo)");
        t.due("(defun g (x) (if (< 0 x) (g (- x 0)) 1) x)", 5, "(((not (< 0 x)) (< (- x 0) x)))");
    }

    private static void sixtyTheorems() {
        Tester.sentence(WHERE, "n names a theorem already: 3; there are 60: 8");
        Tester t = new Tester();
        for (int k = 0; k < 60; k++) {
            Tester.same("theorems", t.house.count(1), k);
            t.done(k % 2 == 0 ? "(defthm n" + k + " t)" : "(check n" + k + " (equal " + k + " " + k + ") (same " + k + "))");
        }
        t.due("(defthm m t)", 8, "").due("(check m (equal 1 1) (same 1))", 8, "").due("(defthm n59 t)", 3, "");
        t.due("(check n0 (equal 1 1) (same 1))", 3, "").due("(prove t)", 0, "").due("(prove x)", 6, "((x))");
        Tester.same("theorems", t.house.count(1), 60);
        Tester.same("taken 58", t.house.taken(58), 2);
        Tester.same("taken 59", t.house.taken(59), 3);
        Tester.same("taken 60", t.house.taken(60), 0);
        // Functions have room of their own.
        for (int k = 0; k < 40; k++) {
            t.done("(defun f" + k + " (x) x)");
        }
        Tester.same("taken 99", t.house.taken(99), 1);
        Tester.same("taken 100", t.house.taken(100), 0);
        for (int k = 0; k < 41; k++) {
            t.done("(undo)");
        }
        t.done("(check m (equal 1 1) (same 1))").due("(defthm m2 t)", 8, "");
    }

    private static void inductHint() {
        Tester.sentence(WHERE, "(induct (f v ..)), f DEFINED with calls of itself (DEFINED without or BASE: 2; else 3), "
                + "as many different variables v as it takes");
        Tester t = new Tester();
        t.done(LEN).done("(defun f (x) x)").done("(defun two (x y) (if (consp x) (two (cdr x) y) y) (height x))");
        t.done("(defthm thm t)");
        t.due("(prove t (induct (len x)))", 0, "").due("(prove t (induct (two x y)))", 0, "");
        t.due("(prove t (induct (two if quote)))", 0, "");
        for (String two : new String[] {"(len)", "(len x y)", "(two x)", "(two x y z)", "(two x x)", "(two x 5)", "(two x nil)",
            "(two x t)", "(two x 'y)", "(two x (car y))", "(f x)", "(car x)", "(if x y z)", "(quote x)", "(nil x)", "(5 x)", "((f) x)",
            "len", "()", "5", "(len . x)", "(no x x)", "(no 5)", "(no nil)"}) {
            t.due("(prove t (induct " + two + "))", 2, "");
        }
        for (String three : new String[] {"(no x)", "(no)", "(no a b c d e f g h)", "(thm x)", "(defun x)"}) {
            t.due("(prove t (induct " + three + "))", 3, "");
        }
        t.due("(prove t (induct))", 2, "").due("(prove t (induct (len x) (len x)))", 2, "");
        t.due("(prove t (induct . (len x)))", 2, "");
        Tester.sentence(WHERE, "induct and off at most once");
        t.due("(prove t (induct (len x)) (induct (len x)))", 2, "").due("(prove t (off thm) (off thm))", 2, "");
        t.due("(prove t (induct (len x)) (off thm) (induct (len y)))", 2, "");
        t.due("(prove t (off thm) (use thm) (off thm))", 2, "");
        t.due("(prove t (use thm) (off thm) (use thm) (induct (len x)) (use thm))", 0, "");
    }

    private static void useHint() {
        Tester.sentence(WHERE, "(use n2 (x T) ..), n2 a theorem (else 3), x different variables of its F, perhaps none");
        Tester t = new Tester();
        t.done("(defthm a (equal (cons x y) (cons x y)))").done("(defthm b t)").done("(defun f (x) x)");
        t.due("(prove t (use a))", 0, "").due("(prove t (use a (x 1)))", 0, "");
        t.due("(prove t (use a (y 1) (x (car x))))", 0, "");
        t.due("(prove t (use b))", 0, "").due("(prove t (use a) (use a) (use b))", 0, "");
        for (String two : new String[] {"(use)", "(use a x)", "(use a (x))", "(use a (x 1 2))", "(use a (x . 1))", "(use a (z 1))",
            "(use a (x 1) (x 1))", "(use a (x 1) (y 2) (x 3))", "(use a (x (no)))", "(use a ((x) 1))", "(use a (nil 1))",
            "(use b (x 1))", "(use a . (x 1))", "(use (a))", "(use 5)", "(use a ())", "(use no (x))", "(use no (nil 1))"}) {
            t.due("(prove t " + two + ")", 2, "");
        }
        t.due("(prove t (use no))", 3, "").due("(prove t (use f))", 3, "").due("(prove t (use no (z 1)))", 3, "");
        t.due("(prove t (use no (z 1) (y 2)))", 3, "").due("(defthm c t (use c))", 3, "");
    }

    private static void offHint() {
        Tester.sentence(WHERE, "(off n2 ..), theorems (else 3), at least one, with a RULE or not");
        Tester t = new Tester();
        t.done("(defun f (x) (if (consp x) (f (cdr x)) 7) (height x))").done("(defthm a (equal (f x) 7) (induct (f x)))");
        t.done("(defthm b t)");
        t.due("(prove (equal (f x) 7))", 0, "", 6).due("(prove (equal (f x) 7) (off a))", 6, "(((equal (f x) 7)))");
        t.due("(prove (equal (f x) 7) (off b))", 0, "", 6);
        t.due("(prove (equal (f x) 7) (off b a a b))", 6, "(((equal (f x) 7)))");
        t.due("(prove t (off))", 2, "").due("(prove t (off 5))", 2, "").due("(prove t (off a 5))", 2, "");
        t.due("(prove t (off (a)))", 2, "");
        t.due("(prove t (off a . b))", 2, "").due("(prove t (off no))", 3, "").due("(prove t (off a no))", 3, "");
        t.due("(prove t (off f))", 3, "");
        // It holds for the one command alone, also one that isn't done.
        t.due("(prove (equal (f x) 7))", 0, "", 6);
        t.done("(off a)").due("(prove (equal (f x) 7) (off b))", 6, "(((equal (f x) 7)))");
        Tester.same("ON", t.house.count(3), 0);
    }

    private static void clausesOfHints() {
        Tester.sentence(WHERE, "Ahead of the literals of each, for each use, the first one first, NOT the theorem's F "
                + "with these T for these x");
        Tester t = new Tester();
        t.done("(defun q (x) (if (consp x) (q (cdr x)) t) (height x))").done("(defthm a (q x) (induct (q x)))").done("(off a)");
        t.due("(prove r (use a) (use a (x y)) (use a (x (car x))))", 6, "(((not (q x)) (not (q y)) (not (q (car x))) r))");
        Tester.sentence(WHERE, "NOT each RULER, for each call of f in the END, from the left, NOT F2, and F");
        t.done("(defun tr (x) (if (consp x) (cons (tr (car x)) (tr (cdr x))) x) (height x))");
        t.due("(prove (natp v) (use a) (induct (tr v)))", 6,
                "(((not (q x)) (not (consp v)) (not (natp (car v))) (not (natp (cdr v))) (natp v)) ((not (q x)) (consp v) (natp v)))");
        Tester.sentence(WHERE, "the v stand for f's parameters, and F2 is F with the call's terms (with the v in "
                + "them) for the v; "
                + "without induct F alone");
        t.done("(defun sw (x y) (if (consp x) (sw (cdr x) x) y) (height x))");
        t.due("(prove (equal b a) (induct (sw a b)))", 6,
                "(((not (consp a)) (not (equal a (cdr a))) (equal b a)) ((consp a) (equal b a)))");
    }

    private static void takenWithItsRule() {
        Tester.sentence(WHERE, "If TO PROVE these (the RULES named by off being off) leaves none, the theorem is "
                + "taken, with its RULE, ON; "
                + "else 6, OUT as of defun");
        Tester t = new Tester();
        t.done("(defun c (x) (if (consp x) (c (cdr x)) 3) (height x))");
        t.due("(defthm a (equal (c x) 3))", 6, "(((equal (c x) 3)))");
        Tester.same("not taken", t.house.count(1) * 100 + t.house.count(2) * 10 + t.house.taken(1), 0);
        t.done("(defthm a (equal (c x) 3) (induct (c x)))");
        Tester.same("taken", t.house.count(1) * 1000 + t.house.count(2) * 100 + t.house.count(3) * 10 + t.house.taken(1), 1112);
        t.due("(defthm b (equal (c y) 3) (off a))", 6, "(((equal (c y) 3)))").due("(defthm b (equal (c y) 3))", 0, "", 6);
        // A new theorem's own RULE has no part in its proof.
        t.done("(undo)").done("(undo)").due("(defthm a (equal (c x) 3))", 6, "(((equal (c x) 3)))");
        t.due("(defthm a (if x y z))", 6, "(((not x) y) (x z))");
        Tester.same("LEFT", t.house.count(4), 2);
    }

    private static void rule(Tester t, String formula, boolean has) {
        int before = t.house.count(2);
        t.done("(defthm new " + formula + ")");
        Tester.same(formula + " has a RULE", t.house.count(2) - before, has ? 1 : 0);
        t.done("(undo)");
    }

    private static void hypotheses() {
        Tester.sentence(WHERE, "(implies H C): H is a HYPOTHESIS (if it is (if A B nil): A, then B, looked at "
                + "likewise), and C is looked at");
        Tester t = new Tester();
        t.done("(defun c (x) 3)");
        // (if A B nil) is two HYPOTHESES, (if A B t) one: seen by what is asked of (c v).
        t.done("(defthm n (implies (if (natp x) (consp x) nil) (equal (c x) 3)))");
        t.due("(simplify (c v))", 0, "3", 2 + 1 + 2 + 1);
        t.done("(undo)").done("(defthm n (implies (if (natp x) (consp x) t) (equal (c x) 3)))");
        t.due("(simplify (c v))", 0, "3", 2 + 1 + 6 + 1);
        t.done("(undo)").done("(defthm n (implies (if (if t (natp x) nil) (if 5 (consp x) nil) nil) (equal (c x) 3)))");
        t.due("(simplify (c v))", 0, "3", 2 + 1 + 1 + 2 + 1);
        // Many of them: a tree of 37, each one t, makes a formula of which no greater one can be REWRITTEN.
        t.done("(undo)").done("(defthm m (equal (c x) 3))");
        t.done("(defthm n (implies " + tree(37) + " (equal (c x) 3)))").due("(simplify (c v))", 0, "3", 2 + 1 + 37 + 1);
        t.done("(undo)").done("(defthm n " + Texts.chain("implies t", 17, "(equal (c x) 3)") + ")");
        t.due("(simplify (c v))", 0, "3", 2 + 1 + 17 + 1);
    }

    private static String tree(int leaves) {
        return leaves == 1 ? "t" : "(if " + tree(leaves / 2) + " " + tree(leaves - leaves / 2) + " nil)";
    }

    private static void rules() {
        Tester.sentence(WHERE, "(equal L R): left L, right R. (not L): L and nil. Another one: L and t, for the TRUTH "
                + "alone unless L is BOOLEAN");
        Tester t = new Tester();
        t.done("(defun c (x) (if (consp x) (c (cdr x)) 3) (height x))").done("(defthm z (equal (c x) 3) (induct (c x)))");
        t.done("(off z)");
        rule(t, "(equal (c x) (c x))", false);
        t.done("(defthm n (not (equal (c x) 4)) (use z))").due("(simplify (equal (c v) 4))", 0, "nil", 1 + 4 + 1 + 1 + 1);
        t.done("(undo)");
        t.done("(defthm n (c x) (use z))").due("(simplify (c v))", 0, "(c v)", 4);
        t.due("(simplify (if (c v) 1 2))", 0, "1", 1 + 2 + 1 + 1 + 1);
        t.done("(undo)").done("(defthm n (natp (c x)) (use z))").due("(simplify (natp (c v)))", 0, "t", 1 + 4 + 1 + 1);
    }

    private static void noRules() {
        Tester.sentence(WHERE, "There is none if L is no call, or one of if, not, implies, or a variable of R or of a "
                + "HYPOTHESIS is not in L, or R is L");
        Tester t = new Tester();
        t.done("(defun c (x) 3)").done("(defun p (x y) 3)").done("(defun n (x) nil)");
        rule(t, "(equal (c x) 3)", true);
        rule(t, "(equal 3 (c x))", false);
        rule(t, "(equal x x)", false);
        rule(t, "(implies (equal x 5) (equal x 5))", false);
        rule(t, "(equal (if x 3 3) 3)", false);
        rule(t, "(if x t t)", false);
        rule(t, "(equal (not (n x)) t)", false);
        rule(t, "(not (not (c x)))", false);
        rule(t, "(equal (implies x x) t)", false);
        rule(t, "(equal (p x 1) (p x y))", false);
        rule(t, "(equal (p x y) (p x 1))", true);
        rule(t, "(implies (natp y) (equal (c x) 3))", false);
        rule(t, "(implies (natp x) (equal (c x) 3))", true);
        rule(t, "(implies (if (natp x) (natp y) nil) (equal (c x) 3))", false);
        rule(t, "(implies x (equal (c x) 3))", true);
        rule(t, "(implies y (equal (c x) 3))", false);
        rule(t, "(implies nil (equal (c x) x))", true);
        rule(t, "(implies nil (equal (c x) y))", false);
        rule(t, "(implies 'y (equal (c x) 3))", true);
        rule(t, "(equal (p x y) (p x y))", false);
        rule(t, "(equal (p x y) (p y x))", true);
        rule(t, "(not (n x))", true);
        rule(t, "(equal (c 1) 3)", true);
        rule(t, "5", false);
    }

    private static void onAndOff() {
        Tester.sentence(WHERE, "(on n), (off n): its RULE is ON, or not (no such theorem, or it has no RULE: 3)");
        Tester t = new Tester();
        t.done("(defun c (x) 3)").done("(defthm a (equal (c x) 3))").done("(defthm b (equal x x))");
        t.done("(on a)").done("(off a)").done("(off a)").done("(on a)").done("(on a)");
        Tester.same("ON", t.house.count(3), 1);
        t.due("(on b)", 3, "").due("(off b)", 3, "").due("(on no)", 3, "").due("(off no)", 3, "").due("(on c)", 3, "");
        t.due("(off c)", 3, "");
        Tester.same("RULES", t.house.count(2), 1);
        t.done("(check d (equal (c x) 3) (def c))").done("(off d)");
        Tester.same("ON", t.house.count(3), 1);
        t.done("(undo)").due("(on d)", 3, "");
    }

    private static void undo() {
        Tester.sentence(WHERE, "(undo): what was taken last, by defun, defthm or check, is gone (there is nothing: 3)");
        Tester t = new Tester();
        t.due("(undo)", 3, "", 0).done("(prove t)").due("(undo)", 3, "", 0);
        t.done("(defun c (x) 3)").done("(defthm a (equal (c x) 3))").done("(check b (equal (c x) 3) (def c))");
        t.done("(off a)").due("(eval (c 1))", 0, "3").done("(prove t)").due("(defthm d nil)", 6, "(nil)");
        t.due("(defun c (x) x)", 3, "");
        // Neither on, off, eval nor what isn't done is taken back.
        t.done("(undo)");
        Tester.same("theorems", t.house.count(1), 1);
        Tester.same("it stays off", t.house.count(3), 0);
        t.due("(on b)", 3, "").done("(on a)").done("(undo)");
        Tester.same("theorems", t.house.count(1), 0);
        Tester.same("RULES", t.house.count(2), 0);
        t.due("(simplify (c v))", 0, "3", 3).done("(undo)").due("(eval (c 1))", 2, "").due("(undo)", 3, "");
        Tester.same("functions", t.house.count(0), 0);
        t.done("(defun c (x y) 4)").due("(eval (c 1 2))", 0, "4");
    }

    private static void check() {
        Tester.sentence(WHERE, "the PROOF P must have a clause without other literals than F; else 7, OUT that clause, a list");
        Tester t = new Tester();
        t.due("(check a (equal x x) (same x))", 0, "", 1).due("(check b (equal x x) (weak ((equal x x)) (same x)))", 0, "", 2);
        t.due("(check c (equal x x) (weak (y) (same x)))", 7, "((equal x x) y)", 2);
        t.due("(check c y (same x))", 7, "((equal x x))", 1);
        t.due("(check c (equal y y) (same x))", 7, "((equal x x))", 1).due("(check c (equal '5 5) (same 5))", 0, "", 1);
        Tester.same("theorems", t.house.count(1), 3);
        t.due("(check d (equal x x) (same x) (same x))", 2, "").due("(check d (equal x x))", 2, "");
        t.due("(check d (equal x x) no)", 7, "no", 1);
    }
}
