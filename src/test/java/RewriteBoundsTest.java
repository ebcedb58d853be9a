/** Terms 4, REWRITING: of each sentence that names a limit the last case that is allowed and the first that isn't. */
public final class RewriteBoundsTest {
    private static final String WHERE = "Terms 4";
    private static final String GREATEST = "4611686018427387903";
    private static final String DOWN = "(defun down (n) (if (< 0 n) (down (- n 1)) 0) n)";

    public static void main(String[] args) {
        constantsForTruth();
        depth();
        tests();
        implications();
        outcomes();
        negations();
        sums();
        hundredSteps();
        greatValues();
        hundredAtTheEnd();
        equals();
        sides();
        kinds();
        lesses();
        lookedUpFirst();
        lookedUp();
        latestRule();
        forTruthAlone();
        unfolding();
        matching();
        hypotheses();
        turning();
        smaller();
        Tester.finish();
    }

    private static void simple(String term, String told, int steps) {
        new Tester().due("(simplify " + term + ")", 0, told, steps);
    }

    private static void constantsForTruth() {
        Tester.sentence(WHERE, "whether it is nil alone matters: a constant that isn't nil becomes t whenever it comes out");
        simple("(if (if x 5 7) 1 2)", "1", 1 + 4 + 1);
        simple("(if (if x 5 nil) 1 2)", "(if x 1 2)", 1 + 4 + 2);
        simple("(if (if x nil 5) 1 2)", "(if x 2 1)", 1 + 4 + 2);
        simple("(if x 5 7)", "(if x 5 7)", 4);
        simple("(if (consp x) 5 nil)", "(if (consp x) 5 nil)", 5);
        new Tester().due("(prove (if x 5 'a))", 0, "", 4).due("(prove (if x y 5))", 6, "(((not x) y))");
    }

    private static void depth() {
        Tester.sentence(WHERE, "It is one STEP, ahead of all else, and TOO DEEP within 60 others that are not ended "
                + "(asked first)");
        Tester t = new Tester();
        t.done("(defun g (x) " + Texts.chain("car", 37, "x") + ")");
        // With k of car around (g x), the x in its body is within k, (g x) and 37 others.
        String out = Texts.chain("car", 21 + 37, "x");
        t.due("(simplify " + Texts.chain("car", 21, "(g x)") + ")", 0, out, 21 + 2 + 38);
        t.unworked("(simplify " + Texts.chain("car", 22, "(g x)") + ")", 2, 22 + 2 + 37);
        t.house.fuel(22 + 2 + 37);
        t.unworked("(simplify " + Texts.chain("car", 22, "(g x)") + ")", 2, 22 + 2 + 37);
        t.house.fuel(22 + 2 + 36);
        t.unworked("(simplify " + Texts.chain("car", 22, "(g x)") + ")", 1, 22 + 2 + 36);
        t.house.fuel(21 + 2 + 38);
        t.due("(simplify " + Texts.chain("car", 21, "(g x)") + ")", 0, out, 21 + 2 + 38);
        t.house.fuel(1000);
        Tester.same("a literal is within none", t.run("(prove " + Texts.chain("car", 21, "(g x)") + ")"), 6);
        t.unworked("(prove " + Texts.chain("car", 22, "(g x)") + ")", 2, 22 + 2 + 37);
        // What has ended doesn't count.
        Tester.same("one behind another", t.run("(simplify (cons " + Texts.chain("car", 20, "(g x)") + " "
                + Texts.chain("car", 20, "(g y)") + "))"), 0);
        Tester.sentence(WHERE, "Where it is told that another term is REWRITTEN instead, that is within this one");
        // (h29 x) is opened, then (h28 x) within it, .. (h0 x), and (car x).
        for (int k = 0; k < 30; k++) {
            t.done("(defun h" + k + " (x) " + (k == 0 ? "(car x)" : "(h" + (k - 1) + " x)") + ")");
        }
        t.due("(simplify " + Texts.chain("car", 28, "(h29 x)") + ")", 0, Texts.chain("car", 29, "x"), 28 + 2 * 30 + 2);
        t.done("(defun i (x) " + Texts.chain("car", 29, "(h29 x)") + ")");
        // (h0 x) is within i, 29 of car and 29 others, so its x within 60.
        t.unworked("(simplify (i x))", 2, 2 + 29 + 2 * 29 + 1);
        t.done("(undo)").done("(defun i (x) " + Texts.chain("car", 28, "(h29 x)") + ")");
        // Here (car x) is within 59, but its x within 60.
        t.unworked("(simplify (i x))", 2, 2 + 28 + 2 * 30 + 1);
        t.done("(undo)").done("(defun i (x) " + Texts.chain("car", 27, "(h29 x)") + ")");
        t.due("(simplify (i x))", 0, Texts.chain("car", 28, "x"), 2 + 27 + 2 * 30 + 2);
    }

    private static void tests() {
        Tester.sentence(WHERE, "A is REWRITTEN for its TRUTH; if a constant comes out: B or C, REWRITTEN");
        simple("(if 0 x y)", "x", 3);
        simple("(if nil x y)", "y", 3);
        simple("(if '(nil) x y)", "x", 3);
        simple("(if (not 0) x y)", "y", 4);
        Tester.sentence(WHERE, "Else, A being now what came out, and if that is (not X): A being X, and B and C exchanged: "
                + "B REWRITTEN in the CONTEXT and A behind it; C in the CONTEXT and NOT A behind it");
        simple("(if (not x) y z)", "(if x z y)", 5);
        simple("(if (not (not x)) y z)", "(if x y z)", 6);
        // B is REWRITTEN ahead of C, also of those that were exchanged: z is known nil in the last one.
        simple("(if (not z) (cons z 1) (cons z 2))", "(if z (cons z 2) '(nil . 1))", 9);
        // A holds in B alone, NOT A in C alone, neither behind the if.
        simple("(cons (if (natp x) (natp x) (natp x)) (natp x))", "(cons (natp x) (natp x))", 1 + 1 + 6 + 2);
        simple("(if (natp x) (if (natp x) 1 2) (if (natp x) 1 2))", "(if (natp x) 1 2)", 1 + 2 + 4 + 4);
        Tester.sentence(WHERE, "A variable is LOOKED UP. Of another call: its terms, from the left, REWRITTEN for "
                + "their VALUES");
        simple("(if x (cons x (if x 1 2)) 3)", "(if x (cons x 1) 3)", 1 + 1 + 1 + 1 + 3 + 1);
        // From the left: the first one is TOO BIG as it is made, and the second one isn't begun; or it has ended ahead of that.
        String great = "(implies " + Texts.sized(60, "x") + " " + Texts.sized(56, "x") + ")";
        new Tester().unworked("(simplify (cons " + great + " y))", 4, 2);
        new Tester().unworked("(simplify (cons y " + great + "))", 4, 3);
    }

    private static void implications() {
        Tester.sentence(WHERE, "Of (implies A B): (if A (if B t nil) t), REWRITTEN");
        simple("(implies x y)", "(if x (if y t nil) t)", 1 + 1 + 1 + 4 + 1);
        simple("(implies x (natp y))", "(if x (natp y) t)", 1 + 1 + 1 + 5 + 1);
        simple("(implies t (natp y))", "(natp y)", 1 + 1 + 1 + 5);
        simple("(implies nil y)", "t", 1 + 1 + 1 + 1);
        simple("(implies x 5)", "t", 1 + 1 + 1 + 3 + 1);
        simple("(implies x nil)", "(not x)", 1 + 1 + 1 + 3 + 1);
        simple("(implies x x)", "t", 1 + 1 + 1 + 3 + 1);
    }

    private static void outcomes() {
        Tester.sentence(WHERE, "then B if both are the same; A if B is t, C is nil, and the TRUTH is wanted or A is BOOLEAN; "
                + "(not A) if B is nil and C is t; else (if A B C)");
        simple("(if x y y)", "y", 4);
        simple("(if x t nil)", "(if x t nil)", 4);
        simple("(if (if x t nil) 1 2)", "(if x 1 2)", 1 + 4 + 2);
        simple("(if (consp x) t nil)", "(consp x)", 5);
        simple("(if (consp x) 5 nil)", "(if (consp x) 5 nil)", 5);
        simple("(if (consp x) nil t)", "(not (consp x))", 5);
        simple("(if x nil t)", "(not x)", 4);
        simple("(if x nil 5)", "(if x nil 5)", 4);
        simple("(if x t t)", "t", 4);
        simple("(if x nil nil)", "nil", 4);
        simple("(if x t 5)", "(if x t 5)", 4);
        // A call of if is not BOOLEAN.
        simple("(if (if x y nil) t nil)", "(if (if x y nil) t nil)", 1 + 4 + 2);
        simple("(if (if (if x y nil) t nil) 1 2)", "(if (if x y nil) 1 2)", 1 + 1 + 4 + 2 + 2);
    }

    private static void negations() {
        Tester.sentence(WHERE, "Of (not A): A REWRITTEN for its TRUTH, then NOT that; but if that is (not X), X isn't "
                + "BOOLEAN, and the VALUE is wanted: (not (not X)); "
                + "if this isn't a constant it is LOOKED UP");
        simple("(not (not x))", "(not (not x))", 3);
        simple("(not (not (natp x)))", "(natp x)", 4);
        simple("(if (not (not x)) 1 2)", "(if x 1 2)", 6);
        simple("(if x (not (not x)) 1)", "(if x t 1)", 6);
        simple("(if x 1 (not (not x)))", "(if x 1 nil)", 6);
        simple("(if (not x) (not x) 1)", "(if x 1 t)", 1 + 2 + 1 + 2);
        simple("(cons (not 5) (not nil))", "'(nil . t)", 5);
        // (not A) is in the CONTEXT, and asked for as a whole.
        simple("(if (natp x) 1 (cons (not (natp x)) 2))", "(if (natp x) 1 '(t . 2))", 1 + 2 + 1 + 5);
    }

    private static void sums() {
        Tester.sentence(WHERE, "1 All are constants, the function is a BASE one: its value (if that isn't TOO GREAT)");
        simple("(+ 4611686018427387902 1)", GREATEST, 3);
        simple("(+ " + GREATEST + " 1)", "(+ " + GREATEST + " 1)", 3);
        simple("(natp (+ " + GREATEST + " 1))", "t", 4);
        simple("(- (+ " + GREATEST + " 1) 1)", "(- (+ " + GREATEST + " 1) 1)", 5);
        simple("(< (- (+ " + GREATEST + " 1) 1) (+ " + GREATEST + " 1))", "(< 0 (+ " + GREATEST + " 1))", 9 + 5);
    }

    private static void hundredSteps() {
        Tester.sentence(WHERE, "2 All are constants, the function is DEFINED: its value, evaluated in at most 100 STEPS "
                + "(which are the command's, too: OUT OF FUEL is the command's fault");
        Tester t = new Tester();
        t.done(DOWN).done("(defun one (n) (down n))").done("(defun two (n) (natp (down n)))");
        t.done("(defun k () 7)");
        // (down 24) makes 99 STEPS, (one 24) 100, (two 24) 101.
        t.due("(simplify (down 24))", 0, "0", 2 + 99).due("(simplify (one 24))", 0, "0", 2 + 100);
        // Behind 100 STEPS two is opened: natp, down, 24 and the 99.
        t.due("(simplify (two 24))", 0, "t", 2 + 100 + 3 + 99);
        t.due("(simplify (k))", 0, "7", 1 + 1);
        t.house.fuel(102);
        t.due("(simplify (one 24))", 0, "0", 102);
        t.house.fuel(101);
        t.unworked("(simplify (one 24))", 1, 101);
        t.due("(simplify (down 24))", 0, "0", 101);
        t.house.fuel(100);
        t.unworked("(simplify (down 24))", 1, 100);
        t.house.fuel(1);
        t.unworked("(simplify (k))", 1, 1);
        t.house.fuel(1000);
        // One of them not constant: it isn't evaluated.
        t.done("(defun p (x y) (cons x (down y)))").due("(simplify (p x 1))", 0, "(cons x 0)", 3 + 1 + 1 + 2 + 7);
    }

    private static void greatValues() {
        Tester.sentence(WHERE, "or it is TOO DEEP or TOO GREAT, the STEPS up to that are made, and it can't be");
        Tester t = new Tester();
        t.done("(defun up (n) (+ n " + GREATEST + "))");
        t.due("(simplify (up 0))", 0, GREATEST, 2 + 2);
        // up, +; then opened: +, 1, the greatest.
        t.due("(simplify (up 1))", 0, "(+ 1 " + GREATEST + ")", 2 + 2 + 3);
        t.unworked("(eval (up 1))", 3, 2);
        Tester.same("no FAULT of the simplify", t.run("(simplify (up 1))") * 10 + t.house.fault(2), 0);
    }

    private static void hundredAtTheEnd() {
        Tester.sentence(WHERE, "if a 101st one would be made, which is asked first");
        Tester t = new Tester();
        t.done(DOWN);
        // (r '(1)) is evaluated in more than 100 STEPS, and what it asks first comes out as no constant: it stays.
        t.done("(defun r (n) (if (if (consp n) (equal 0 (+ (+ 1 (down 25)) " + GREATEST + ")) nil) (r (cdr n)) 0) (height n))");
        int ofDown = 2 + 100 + 3 + 4 + 99;
        int ofTest = 1 + 2 + 5 + ofDown + 1;
        t.due("(simplify (r '(1)))", 0, "(r '(1))", 2 + 100 + ofTest);
        // In the third one it is known nil. Its 100th STEP is the last one that is made, and no FUEL is wanted then.
        int all = 1 + 2 + 100 + ofTest + 1 + 2 + 100;
        t.due("(simplify (if (r '(1)) 5 (r '(1))))", 0, "(if (r '(1)) 5 nil)", all);
        t.house.fuel(all);
        t.due("(simplify (if (r '(1)) 5 (r '(1))))", 0, "(if (r '(1)) 5 nil)", all);
        t.house.fuel(all - 1);
        t.unworked("(simplify (if (r '(1)) 5 (r '(1))))", 1, all - 1);
    }

    private static void equals() {
        Tester.sentence(WHERE, "3 (equal X X): t. (equal X Y), one of them a call of cons, the other one a constant "
                + "that is no pair: "
                + "nil; both calls of cons");
        simple("(equal (car x) (car x))", "t", 5);
        simple("(equal (car x) (car y))", "(equal (car x) (car y))", 5);
        simple("(equal (cons x y) nil)", "nil", 5);
        simple("(equal 5 (cons x y))", "nil", 5);
        simple("(equal 'a (cons x y))", "nil", 5);
        simple("(equal '(a) (cons x y))", "(equal '(a) (cons x y))", 5);
        simple("(equal (cons x y) '(a . b))", "(equal (cons x y) '(a . b))", 5);
        simple("(equal (cons x y) z)", "(equal (cons x y) z)", 5);
        simple("(equal (cons x y) (cons x y))", "t", 7);
        simple("(equal (cons x y) (cons x z))", "(equal y z)", 7 + 1 + 3 + 3);
        simple("(equal (cons x y) (cons z y))", "(equal x z)", 7 + 1 + 3 + 3 + 1);
    }

    private static void sides() {
        Tester.sentence(WHERE, "(car (cons X Y)): X; (cdr (cons X Y)): Y");
        simple("(car (cons x y))", "x", 4);
        simple("(cdr (cons x y))", "y", 4);
        simple("(car (cdr x))", "(car (cdr x))", 3);
        simple("(car (+ x y))", "(car (+ x y))", 4);
        simple("(height (cons x y))", "(height (cons x y))", 4);
    }

    private static void kinds() {
        Tester.sentence(WHERE, "consp of a call of cons: t; natp, symbolp: nil. natp of a call of +, - or height: t; "
                + "consp, symbolp: nil");
        for (String call : new String[] {"(cons x y)", "(+ x y)", "(- x y)", "(height x)", "(car x)", "(equal x y)"}) {
            boolean pair = call.startsWith("(cons");
            boolean number = call.startsWith("(+") || call.startsWith("(-") || call.startsWith("(height");
            String kept = pair || number ? null : "";
            new Tester().due("(simplify (consp " + call + "))", 0, kept == null ? pair ? "t" : "nil" : "(consp " + call + ")");
            new Tester().due("(simplify (natp " + call + "))", 0, kept == null ? pair ? "nil" : "t" : "(natp " + call + ")");
            new Tester().due("(simplify (symbolp " + call + "))", 0, kept == null ? "nil" : "(symbolp " + call + ")");
        }
    }

    private static void lesses() {
        Tester.sentence(WHERE, "(< X X), (< X 0): nil");
        simple("(< x x)", "nil", 3);
        simple("(< x 0)", "nil", 3);
        simple("(< x '0)", "nil", 3);
        simple("(< x nil)", "(< x nil)", 3);
        simple("(< x 1)", "(< x 1)", 3);
        simple("(< 0 x)", "(< 0 x)", 3);
        Tester.sentence(WHERE, "(< (height (car X)) (height X)), (< (height (cdr X)) (height X)): (consp X), REWRITTEN");
        simple("(< (height (car x)) (height x))", "(consp x)", 6 + 2);
        simple("(< (height (cdr (car x))) (height (car x)))", "(consp (car x))", 8 + 3);
        simple("(< (height (cdr (cons x y))) (height (cons x y)))", "(< (height y) (height (cons x y)))", 10);
        simple("(< (height (car (car x))) (height x))", "(< (height (car (car x))) (height x))", 7);
        simple("(< (height (car y)) (height x))", "(< (height (car y)) (height x))", 6);
        simple("(< (height (car x)) (car x))", "(< (height (car x)) (car x))", 6);
        simple("(< (car (car x)) (height x))", "(< (car (car x)) (height x))", 6);
        simple("(< (height x) (height x))", "nil", 5);
        Tester.sentence(WHERE, "(< (- X K) X), K a natural above 0: (< 0 X), REWRITTEN");
        simple("(< (- x 1) x)", "(< 0 x)", 5 + 3);
        simple("(< (- x " + GREATEST + ") x)", "(< 0 x)", 5 + 3);
        simple("(< (- x 0) x)", "(< (- x 0) x)", 5);
        simple("(< (- x t) x)", "(< (- x t) x)", 5);
        simple("(< (- x y) x)", "(< (- x y) x)", 5);
        simple("(< (- x 1) y)", "(< (- x 1) y)", 5);
        simple("(< (- (- x 1) 1) x)", "(< (- (- x 1) 1) x)", 7);
    }

    private static void lookedUpFirst() {
        Tester.sentence(WHERE, "4 U, LOOKED UP, is another one: that");
        Tester t = new Tester();
        t.done("(defun c (x) 3)").done("(defthm r (equal (c x) 3))");
        // Known, (c x) isn't opened, and no RULE is looked at.
        t.done("(defun s (x) (if (consp x) (s (cdr x)) 3) (height x))");
        t.due("(simplify (if (equal (s x) 4) (s x) 5))", 0, "(if (equal (s x) 4) 4 5)", 1 + 1 + 2 + 2 + 1 + 2 + 1);
        // What is computed, or reduced, comes ahead of it: (natp (+ x y)).
        t.due("(simplify (if (equal (s 1) 4) 1 2))", 0, "2");
    }

    private static void lookedUp() {
        Tester.sentence(WHERE, "LOOKED UP: U is in the CONTEXT, and the TRUTH is wanted or U is BOOLEAN: t. Else (not "
                + "U) is in it: nil. "
                + "Else (equal U K) or (equal K U), K a constant, is in it: K (of the first such). Else U");
        simple("(if x (if x 1 2) 3)", "(if x 1 3)", 1 + 1 + 3 + 1);
        simple("(if x (cons x y) 3)", "(if x (cons x y) 3)", 1 + 1 + 3 + 1);
        simple("(if (natp x) (cons (natp x) y) 3)", "(if (natp x) (cons t y) 3)", 1 + 2 + 4 + 1);
        simple("(if x 3 (cons x y))", "(if x 3 (cons nil y))", 1 + 1 + 1 + 3);
        simple("(if (equal x 5) (cons x y) 3)", "(if (equal x 5) (cons 5 y) 3)", 1 + 3 + 3 + 1);
        simple("(if (equal 5 x) (cons x y) 3)", "(if (equal 5 x) (cons 5 y) 3)", 1 + 3 + 3 + 1);
        simple("(if (equal x y) (cons x y) 3)", "(if (equal x y) (cons x y) 3)", 1 + 3 + 3 + 1);
        simple("(if (equal x 5) 3 (cons x y))", "(if (equal x 5) 3 (cons x y))", 1 + 3 + 1 + 3);
        Tester t = new Tester();
        // Two that tell of x: the first literal, (equal (car (cons x y)) 5), is REWRITTEN with both of them behind it.
        String both = "(defun f (x y) (if (equal (car (cons x y)) 5) 0 (if (equal x 5) (if (equal 6 x) (f x y) 0) 0)) 0)";
        t.due(both, 0, "", 6).done("(undo)");
        t.due(both.replace("(equal x 5)", "(equal 6 x)").replaceFirst("if \\(equal 6 x\\) \\(f", "if (equal x 5) (f"), 0, "", 6 + 4);
        // x isn't nil: for its TRUTH that comes ahead of 5, for its VALUE 5 is told.
        t.due("(simplify (if (equal x 5) (if x (cons x y) 1) 2))", 0, "(if (equal x 5) (cons 5 y) 2)", 1 + 3 + 1 + 1 + 3 + 1);
    }

    private static void latestRule() {
        Tester.sentence(WHERE, "5 The latest RULE that is ON and APPLIES");
        Tester t = new Tester();
        t.done("(defun c (x) (if (consp x) (c (cdr x)) 3) (height x))");
        t.done("(defun d (x) 3)").done("(defthm r1 (equal (c x) 3) (induct (c x)))");
        t.done("(defthm r2 (equal (c x) (d x)) (off r1) (use r1))");
        // r2: the match, then d, y and its body.
        t.due("(simplify (c y))", 0, "3", 2 + 1 + 3);
        t.done("(off r2)").due("(simplify (c y))", 0, "3", 2 + 1 + 1);
        t.done("(off r1)").due("(simplify (c y))", 0, "(c y)", 2 + 2);
        t.done("(on r2)").due("(simplify (c y))", 0, "3", 2 + 1 + 3);
        // One that is turned on again isn't the latest.
        t.done("(on r1)").due("(simplify (c y))", 0, "3", 2 + 1 + 3);
        t.done("(undo)").due("(simplify (c y))", 0, "3", 2 + 1 + 1);
        // The latest that APPLIES: one whose HYPOTHESIS doesn't come out as t is passed over.
        t.done("(defthm r3 (implies (consp x) (equal (c x) (d x))) (use r1))");
        t.due("(simplify (c y))", 0, "3", 2 + 1 + 2 + 1 + 1);
        t.due("(simplify (c (cons a b)))", 0, "3", 4 + 1 + 4 + 4 + 1);
    }

    private static void forTruthAlone() {
        Tester.sentence(WHERE, "one for the TRUTH alone is not looked at where the VALUE is wanted, no STEP is made");
        Tester t = new Tester();
        t.done("(defun c (x) (if (consp x) (c (cdr x)) 3) (height x))").done("(defthm r (c x) (induct (c x)))");
        t.due("(simplify (c y))", 0, "(c y)", 2 + 2);
        t.due("(simplify (if (c y) 1 2))", 0, "1", 1 + 2 + 1 + 1 + 1);
        t.due("(prove (c y))", 0, "", 2 + 1 + 1);
        t.done("(defthm b (natp (c x)) (induct (c x)))");
        t.due("(simplify (natp (c y)))", 0, "t", 1 + 4 + 1 + 1);
        t.due("(simplify (cons (c y) (c y)))", 0, "(cons (c y) (c y))", 1 + 4 + 4);
    }

    private static void unfolding() {
        Tester.sentence(WHERE, "6 The function is DEFINED without calls of itself: its body, with these for the "
                + "parameters, REWRITTEN. "
                + "7 It is DEFINED with them, its body is (if Q B C), and Q .. comes out as a constant: B or C, with these, REWRITTEN. 8 U");
        Tester t = new Tester();
        t.done("(defun f (x y) (cons y x))").due("(simplify (f y x))", 0, "(cons x y)", 3 + 3);
        t.done("(defun s (x) (if (consp x) (s (cdr x)) (cons x 3)) (height x))");
        t.due("(simplify (s y))", 0, "(s y)", 2 + 2);
        t.due("(simplify (s (+ y 1)))", 0, "(cons (+ y 1) 3)", 4 + 4 + 5);
        t.due("(simplify (s (cons y 1)))", 0, "'(1 . 3)", 4 + 4 + 5 + 4);
        t.due("(simplify (s (cons y z)))", 0, "(s z)", 4 + 4 + 5 + 2);
        // For its TRUTH: (if (natp x) 5 7) is t then, though no constant for its VALUE.
        t.done("(defun v (x) (if (if (natp x) 5 7) (cons x 3) (v (cdr x))) (height x))");
        t.due("(simplify (v y))", 0, "(cons y 3)", 2 + 5 + 3);
        // What Q opens has parameters of its own.
        t.done("(defun isp (z) (consp z))").done("(defun o (x) (if (isp x) (o (cdr x)) (cons x 3)) (height x))");
        t.due("(simplify (o (+ y 1)))", 0, "(cons (+ y 1) 3)", 4 + 4 + 4 + 5);
        // Any constant that isn't nil chooses B.
        t.done("(defun n (x) (if (if (consp x) 7 nil) (n (cdr x)) 3) (height x))");
        t.due("(simplify (n (cons y z)))", 0, "(n z)", 4 + 6 + 5 + 5);
    }

    private static void matching() {
        Tester.sentence(WHERE, "It MATCHES U if that is its left side with terms for its variables "
                + "(for a variable that stands there twice the same one); that is one STEP");
        Tester t = new Tester();
        t.done("(defun p (x y) (if (consp x) (p (cdr x) y) 3) (height x))");
        t.done("(defthm r0 (equal (p x y) 3) (induct (p x y)))").done("(off r0)");
        t.done("(defthm r1 (equal (p x x) 3) (use r0 (y x)))");
        t.due("(simplify (p a a))", 0, "3", 3 + 1 + 1).due("(simplify (p a b))", 0, "(p a b)", 3 + 2);
        t.due("(simplify (p (car a) (car a)))", 0, "3", 5 + 1 + 1);
        t.done("(undo)").done("(defthm r1 (equal (p (car x) 5) 3) (use r0 (x (car x)) (y 5)))");
        t.due("(simplify (p (car a) 5))", 0, "3", 4 + 1 + 1).due("(simplify (p (car a) 6))", 0, "(p (car a) 6)", 4 + 3);
        t.due("(simplify (p (cdr a) 5))", 0, "(p (cdr a) 5)", 4 + 3).due("(simplify (p a 5))", 0, "(p a 5)", 3 + 2);
        t.due("(simplify (p (car (car a)) 5))", 0, "3", 5 + 1 + 1);
        // A variable of the RULE is none of U's, though it has the same name.
        t.done("(undo)").done("(defthm r1 (equal (p x (car y)) (p y x)) (use r0 (y (car y))) (use r0 (x y) (y x)))");
        t.due("(simplify (p y (car x)))", 0, "(p x y)", 4 + 1 + 3 + 2);
    }

    private static void hypotheses() {
        Tester.sentence(WHERE, "each HYPOTHESIS with these, from the left, REWRITTEN for its TRUTH comes out as t");
        Tester t = new Tester();
        t.done("(defun p (x y) (if (consp x) (p (cdr x) y) 3) (height x))");
        t.done("(defthm r0 (equal (p x y) 3) (induct (p x y)))").done("(off r0)");
        t.done("(defthm r1 (implies (natp y) (implies (car y) (equal (p x y) 3))) (use r0))");
        t.due("(simplify (p a b))", 0, "(p a b)", 3 + 1 + 2 + 2);
        t.due("(simplify (p a (+ b c)))", 0, "(p a (+ b c))", 5 + 1 + 4 + 4 + 2);
        // For its TRUTH: (car b) that isn't nil is t, though no constant.
        t.due("(simplify (if (natp b) (if (car b) (p a b) 1) 2))", 0, "(if (natp b) (if (car b) 3 1) 2)",
                1 + 2 + 1 + 2 + 3 + 1 + 2 + 2 + 1 + 1 + 1);
        t.due("(simplify (if (natp b) (p a b) 2))", 0, "(if (natp b) (p a b) 2)", 1 + 2 + 3 + 1 + 2 + 2 + 2 + 1);
    }

    private static void turning() {
        Tester.sentence(WHERE, "but one whose right side is the left one with variables for variables (for each one, "
                + "no two alike) "
                + "only if the right side with these is SMALLER than U (asked ahead of the HYPOTHESES)");
        Tester t = new Tester();
        t.done("(defun p (x y) 3)").done("(defthm turn (implies (natp x) (equal (p x y) (p y x))))");
        t.due("(simplify (p a b))", 0, "3", 3 + 1 + 1).due("(simplify (p b a))", 0, "3", 3 + 1 + 2 + 1);
        t.due("(simplify (p (+ b b) (+ a a)))", 0, "3", 7 + 1 + 4 + 7 + 1 + 1);
        t.done("(undo)");
        // Two alike: no turning RULE, so it goes on and on.
        t.done("(defthm same (equal (p x y) (p y y)))").unworked("(simplify (p a b))", 2, 59 * 4 + 1).done("(undo)");
        // Nor are those where a constant, or a call, stands for a variable.
        t.done("(defthm left (equal (p x y) (p 1 y)))").unworked("(simplify (p 0 b))", 2, 59 * 4 + 1).done("(undo)");
        t.done("(defthm right (equal (p x y) (p x 1)))").unworked("(simplify (p a 0))", 2, 59 * 4 + 1).done("(undo)");
        // Sides that differ otherwise: (p x 1) is not asked to be SMALLER.
        t.done("(defthm one (equal (p x 2) (p 2 x)))").due("(simplify (p a 2))", 0, "3", 3 + 1 + 3 + 1).done("(undo)");
        t.done("(defthm one (equal (p 2 x) (p x 2)))").due("(simplify (p 2 a))", 0, "3", 3 + 1 + 3 + 1).done("(undo)");
        // Where it doesn't turn, the one ahead of it is next.
        t.done("(defun s (x y) (if (consp x) (s (cdr x) y) 3) (height x))");
        t.done("(defthm three (equal (s x y) 3) (induct (s x y)))");
        t.done("(defthm turn (equal (s x y) (s y x)) (use three) (use three (x y) (y x)))");
        t.due("(simplify (s a b))", 0, "3", 3 + 1 + 1 + 1).due("(simplify (s b a))", 0, "3", 3 + 1 + 3 + 1 + 1 + 1);
    }

    private static void smaller() {
        Tester.sentence(WHERE, "SMALLER: told as texts, of the first 200 characters the first one that differs is lower "
                + "(a text that has ended is lowest)");
        Tester t = new Tester();
        t.done("(defun u (x y z) 3)").done("(defthm turn (equal (u z x y) (u z y x)))");
        // (u a '( are seven characters, sixteen items 192: what is behind them is the 200th.
        String same = "abcdefghijk ".repeat(16);
        String two = "'(" + same + "y) '(" + same + "x)";
        String one = "'(" + same + "x) '(" + same + "y)";
        t.due("(simplify (u a " + two + "))", 0, "3", 4 + 1 + 4 + 1 + 1).due("(simplify (u a " + one + "))", 0, "3", 4 + 1 + 1);
        t.due("(simplify (u aa " + two + "))", 0, "3", 4 + 1 + 1).due("(simplify (u aa " + one + "))", 0, "3", 4 + 1 + 1);
        // Lower: by the characters' numbers, a blank and ) ahead of digits, these ahead of letters.
        String[] order = {"'5", "'a", "(car a)", "0", "1", "10", "11", "2", "a", "a2", "aa", "b", "nil", "t", "z"};
        for (int i = 0; i < order.length; i++) {
            for (int j = 0; j < order.length; j++) {
                String first = order[i].equals("'5") ? "5" : order[i];
                String second = order[j].equals("'5") ? "5" : order[j];
                boolean lower = ("(u v " + second + " " + first + ")").compareTo("(u v " + first + " " + second + ")") < 0;
                int terms = 2 + (first.startsWith("(car") ? 2 : 1) + (second.startsWith("(car") ? 2 : 1);
                t.due("(simplify (u v " + first + " " + second + "))", 0, "3", terms + 1 + (lower ? terms + 1 : 0) + 1);
            }
        }
    }
}
