/** Promise 13: recheck. */
public final class RecheckTest {
    public static void main(String[] args) {
        answers();
        manyProofs();
        withRules();
        Tester.finish();
    }

    private static void recheck(Tester t, String text, int answer, boolean holds) {
        Tester.same(text, t.run(text), answer);
        int steps = t.house.steps();
        String out = t.out();
        for (int k = 0; k < 3; k++) {
            Tester.same("recheck behind " + text, t.house.recheck(), holds);
        }
        Tester.same("steps stay behind it", t.house.steps(), steps);
        Tester.same("OUT stays behind it", t.out(), out);
        Tester.same("fault 2 stays behind it", t.house.fault(2) == 0, answer != 4);
    }

    private static void answers() {
        Tester t = new Tester();
        Tester.same("recheck of a new one", t.house.recheck(), false);
        recheck(t, "(prove t)", 0, true);
        recheck(t, "(prove x)", 6, false);
        recheck(t, "(prove (equal x x))", 0, true);
        recheck(t, "(eval 1)", 0, false);
        recheck(t, "(simplify (equal x x))", 0, false);
        recheck(t, "(prove", 1, false);
        recheck(t, "(prove)", 2, false);
        recheck(t, "(prove x (use no))", 3, false);
        recheck(t, "(defun f (x) 1)", 0, false);
        recheck(t, "(defun f (x) 1)", 3, false);
        recheck(t, "(defun g (x) (if (consp x) (g (cdr x)) 1) (height x))", 0, true);
        recheck(t, "(defun h (x) (if (consp x) (h (cdr x)) 1) x)", 5, false);
        recheck(t, "(defthm a (equal (g x) 1) (induct (g x)))", 0, true);
        recheck(t, "(check b (equal (f x) 1) (def f))", 0, false);
        recheck(t, "(check c (equal (f x) 2) (def f))", 7, false);
        recheck(t, "(off a)", 0, false);
        recheck(t, "(undo)", 0, false);
        t.house.fuel(2);
        recheck(t, "(prove (equal x x))", 4, false);
        t.house.fuel(1000);
        t.run("(prove (equal x x))");
        t.house.tell(0);
        t.feed("(eval 1)");
        t.house.fuel(5);
        Tester.same("recheck behind tell, end and fuel", t.house.recheck(), true);
    }

    private static void manyProofs() {
        Tester t = new Tester();
        recheck(t, "(defun app (x y) (if (consp x) (cons (car x) (app (cdr x) y)) y) (height x))", 0, true);
        recheck(t, "(defun len (x) (if (consp x) (+ 1 (len (cdr x))) 0) (height x))", 0, true);
        recheck(t, "(defun tl (x) (if (consp x) (tl (cdr x)) (equal x nil)) (height x))", 0, true);
        recheck(t, "(defun rev (x) (if (consp x) (app (rev (cdr x)) (cons (car x) nil)) nil) (height x))", 0, true);
        recheck(t, "(defthm assoc (equal (app (app x y) z) (app x (app y z))) (induct (app x y)))", 0, true);
        recheck(t, "(defthm tlapp (equal (tl (app x y)) (tl y)) (induct (app x y)))", 0, true);
        recheck(t, "(defthm tlrev (tl (rev x)) (induct (rev x)))", 0, true);
        recheck(t, "(prove (natp (len x)) (induct (len x)))", 0, true);
        recheck(t, "(prove (equal (app '(1 2) x) (cons 1 (cons 2 x))))", 0, true);
        recheck(t, "(prove (equal (len '(1 2 3)) 3))", 0, true);
        recheck(t, "(prove (implies (if a (if b c nil) nil) (if c (if b a nil) nil)))", 0, true);
        recheck(t, "(prove (implies (equal x 5) (equal (+ x 1) 6)))", 0, true);
    }

    private static void withRules() {
        Tester t = new Tester();
        t.done("(defun p (x y) 3)");
        // The theorem's own RULE has no part in its proof, though it is the latest when it is asked again.
        recheck(t, "(defthm a (equal (p x y) 3))", 0, true);
        recheck(t, "(defthm turn (equal (p x y) (p y x)))", 0, true);
        recheck(t, "(prove (equal (p b a) 3))", 0, true);
        recheck(t, "(prove (equal (p b a) 3) (off a))", 0, true);
        recheck(t, "(prove (equal (p b a) 3) (off a turn))", 0, true);
        recheck(t, "(defthm hyp (implies (consp x) (equal (p x y) (p 1 2))) (off turn))", 0, true);
        recheck(t, "(prove (equal (p (cons b b) a) 3) (use a) (off turn))", 0, true);
    }
}
