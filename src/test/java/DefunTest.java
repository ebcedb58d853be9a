/** Promises 5, 8, 11, 12 and 13 of defun: what is taken, what is refused, and the clauses that the measure leaves. */
public final class DefunTest {
    private static final String LEN = "(defun len (x) (if (consp x) (+ 1 (len (cdr x))) 0) (height x))";

    public static void main(String[] args) {
        plain();
        forms();
        names();
        falling();
        notFalling();
        paths();
        room();
        faults();
        manyCalls();
        Tester.finish();
    }

    private static void plain() {
        Tester t = new Tester();
        t.due("(defun f (x) (if (consp x) 1 2))", 0, "", 0);
        Tester.same("count", t.house.count(0), 1);
        Tester.same("recheck", t.house.recheck(), false);
        t.due("(defun none () '(a))", 0, "", 0).due("(eval (none))", 0, "(a)");
        t.due("(defun six (a b c d e f) f)", 0, "").due("(eval (six 1 2 3 4 5 6))", 0, "6");
        t.due("(defun sev (a b c d e f g) f)", 2, "");
        t.due("(defun odd 'x quote)", 0, "");
        Tester.same("tell", t.house.tell(3), 20);
        Tester.same("told", t.out(), "(defun odd 'x quote)");
    }

    private static void forms() {
        Tester t = new Tester();
        for (String order : new String[] {"(defun)", "(defun f)", "(defun f (x))", "(defun f x x)", "(defun f (x . y) x)",
            "(defun f (x x) x)", "(defun f (nil) 1)", "(defun f (t) 1)", "(defun f (5) 1)", "(defun f ((x)) 1)",
            "(defun f (x) y)", "(defun f (x) (g x))", "(defun f (x) (car x x))", "(defun f (x) x x)",
            "(defun f (x) x 1)", "(defun f (x) (f x))", "(defun f (x) (f x) (f x))", "(defun f (x) (f x) y)",
            "(defun f (x) (f x x) x)", "(defun f (x) (f x) x x)", "(defun 5 (x) x)", "(defun (f) (x) x)",
            "(defun f (x) (if (f x) 1 2) x)", "(defun f (x) (if x (if (not (f x)) 1 2) 3) x)",
            "(defun f (x) (f (f x)) x)", "(defun f (x) (if x (cons 1 (f (car (f (cdr x))))) 2) x)",
            "(defun f (x) (f (cons x (if x (f x) 1))) x)"}) {
            t.due(order, 2, "", 0);
        }
        // A call of itself in an if that is not on a PATH, but in an END, is a call like others.
        t.due("(defun f (x) (if (consp x) (cons 1 (if x (f (cdr x)) 2)) 3) (height x))", 0, "");
        Tester.same("count", t.house.count(0), 1);
    }

    private static void names() {
        Tester t = new Tester();
        for (String name : new String[] {"nil", "t", "quote", "if", "equal", "cons", "implies", "+", "-", "<", "consp",
            "car", "cdr", "natp", "symbolp", "height", "not"}) {
            t.due("(defun " + name + " (x) x)", 2, "");
        }
        t.done("(defun eval (x) x)").done("(defun defun (x) x)").done("(defun f (x) x)");
        t.due("(defun f (x) 1)", 3, "", 0).due("(defun f (x y) (if x (f y x) 1) x)", 3, "", 0);
        // What is not as told comes ahead of the name; f has the new number of terms in its body.
        t.due("(defun f (x y) (f x) x)", 2, "").due("(defun f (x) y)", 2, "").due("(defun f (x y) (f x y) (f x))", 2, "");
        // Theorems have names of their own.
        t.done("(defthm g t)").done("(defun g (x) x)");
    }

    private static void falling() {
        Tester t = new Tester();
        // One clause, (not (consp x)) and (< (height (cdr x)) (height x)).
        t.due(LEN, 0, "", 11);
        Tester.same("recheck", t.house.recheck(), true);
        Tester.same("once more", t.house.recheck(), true);
        t.due("(defun down (n) (if (< 0 n) (down (- n 1)) 0) n)", 0, "", 12);
        t.done("(defun tree (x) (if (consp x) (+ (tree (car x)) (tree (cdr x))) 1) (height x))");
        t.done("(defun flip (x) (if (not (consp x)) 0 (flip (cdr x))) (height x))");
        t.done("(defun acc (x y) (if (consp x) (acc (cdr x) (cons (car x) y)) y) (height x))");
        Tester.same("count", t.house.count(0), 5);
        Tester.same("no clauses LEFT", t.house.count(4), 0);
    }

    private static void notFalling() {
        Tester t = new Tester();
        t.due("(defun len (x) (if (consp x) (+ 1 (len (cdr x))) 0) x)", 5, "(((not (consp x)) (< (cdr x) x)))");
        Tester.same("LEFT", t.house.count(4), 1);
        Tester.same("count", t.house.count(0), 0);
        Tester.same("recheck", t.house.recheck(), false);
        t.due("(defun f (x) (f x) x)", 5, "(nil)", 3);
        t.due("(defun f () (f) 1)", 5, "(nil)", 3);
        // x is nil where f is called, so both heights are 0.
        t.due("(defun f (x) (if x 1 (f (cdr x))) (height x))", 5, "((x))");
        Tester.same("f is not there", t.run("(eval (f 1))"), 2);
        Tester.same("LEFT is 0 behind other ANSWERS", t.house.count(4), 0);
        t.due("(defun f (x y) (if (consp x) (cons (f (cdr x) y) (f y x)) 0) (height x))", 5,
                "(((not (consp x)) (< (height y) (height x))))");
    }

    private static void paths() {
        Tester t = new Tester();
        // From the left; NOT of each RULER: of the second term NOT it, of the third one it.
        String body = "(if x (if (not y) (f 1 x) (f 2 x)) (if y (cons (f 3 x) (f 4 y)) 0))";
        t.due("(defun f (x y) " + body + " 0)", 5, "(((not x) y) ((not x) (not y)) (x (not y)) (x (not y)))");
        // The first literal comes out as (not x), like one behind, which goes; or like one ahead, and goes itself.
        t.due("(defun f (x y z) (if (car (cons x y)) (if z 0 (if x (f x y z) 0)) 0) x)", 5, "(((not x) z))");
        t.due("(defun f (x y z) (if x (if z 0 (if (car (cons x y)) (f x y z) 0)) 0) x)", 5, "(((not x) z))");
        // Where y is nil, so is its car.
        t.due("(defun f (x y) " + body + " (car y))", 5,
                "(((not x) y (< (car x) nil)) ((not x) (not y) (< (car x) (car y)))"
                + " (x (not y) (< nil (car y))) (x (not y)))");
    }

    private static void room() {
        Tester t = new Tester();
        for (int k = 0; k < 40; k++) {
            t.done("(defun f" + k + " (x) " + k + ")");
        }
        t.due("(defun g (x) x)", 8, "", 0).due("(defun f7 (x) x)", 3, "").due("(defun g (x) y)", 2, "");
        Tester.same("count", t.house.count(0), 40);
        t.due("(eval (f39 0))", 0, "39");
        t.done("(undo)").done("(defun g (x) 1)").due("(defun h (x) 1)", 8, "");
        t.due("(eval (f39 0))", 2, "").due("(eval (g 0))", 0, "1");
        t.done("(prove t)").done("(defthm a t)");
    }

    private static void faults() {
        Tester t = new Tester();
        t.house.fuel(10);
        t.unworked(LEN, 1, 10);
        Tester.same("count", t.house.count(0), 0);
        Tester.same("recheck", t.house.recheck(), false);
        t.house.fuel(11);
        t.due(LEN, 0, "", 11);
        t.house.fuel(1000);
        // (< M2 M) is TOO BIG as it is made, ahead of all STEPS: M has a SIZE of 59, M2 one of more than 60.
        String m = "(+ x ".repeat(29) + "x" + ")".repeat(29);
        t.unworked("(defun f (x) (if (consp x) (f (cons x (cons x x))) 1) " + m + ")", 4, 0);
        String half = "(+ x ".repeat(14) + "x" + ")".repeat(14);
        Tester.same("a smaller one isn't", t.run("(defun f (x) (if (consp x) (f (cdr x)) 1) " + half + ")"), 5);
    }

    /** As many clauses as calls, each as often as it stands. */
    private static void manyCalls() {
        Tester t = new Tester();
        t.done("(defun k (a b c d e f) 1)");
        String six = "(k" + " (f)".repeat(6) + ")";
        String many = "(k" + (" (k" + (" " + six).repeat(6) + ")").repeat(2) + (" " + six).repeat(2) + " (f) (f))";
        // NOT nil is t: all 86 are PROVED as they are taken up.
        t.due("(defun f () (if nil " + many + " 0) 0)", 0, "", 0);
        Tester.same("recheck", t.house.recheck(), true);
        t.done("(undo)").due("(defun f () " + many + " 0)", 5, "(" + "nil ".repeat(19) + "nil)", 20 * 3);
        Tester.same("LEFT", t.house.count(4), 20);
    }
}
