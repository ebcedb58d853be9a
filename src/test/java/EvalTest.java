/** Promises 4 to 7, TERMS and their VALUES: eval, FUEL and the FAULTS OF WORK of evaluation. */
public final class EvalTest {
    public static void main(String[] args) {
        values();
        terms();
        sizes();
        defined();
        tooDeep();
        sharedParts();
        Tester.finish();
    }

    private static void value(String term, String told, int steps) {
        new Tester().due("(eval " + term + ")", 0, told, steps);
    }

    private static void values() {
        value("5", "5", 0);
        value("'a", "a", 0);
        value("t", "t", 0);
        value("(if nil 1 2)", "2", 1);
        value("(if 0 1 2)", "1", 1);
        value("(if 'nil (+ 1 (+ 2 3)) (not t))", "nil", 2);
        value("(if (car 1) (+ 1 1) (+ 2 2))", "4", 3);
        value("(equal 1 1)", "t", 1);
        value("(equal 1 2)", "nil", 1);
        value("(equal '(a . (b 1)) (cons 'a '(b 1)))", "t", 2);
        value("(equal 'nil ())", "t", 1);
        value("(equal 0 nil)", "nil", 1);
        value("(cons 1 2)", "(1 . 2)", 1);
        value("(cons 'quote '(a))", "'a", 1);
        value("(implies nil nil)", "t", 1);
        value("(implies nil 1)", "t", 1);
        value("(implies 1 nil)", "nil", 1);
        value("(implies 1 7)", "t", 1);
        value("(+ 2 3)", "5", 1);
        value("(+ 'a 3)", "3", 1);
        value("(+ nil '(1))", "0", 1);
        value("(+ 4611686018427387902 1)", "4611686018427387903", 1);
        value("(- 5 3)", "2", 1);
        value("(- 3 5)", "0", 1);
        value("(- 3 'x)", "3", 1);
        value("(- '(9) 4611686018427387903)", "0", 1);
        value("(< 1 2)", "t", 1);
        value("(< 2 2)", "nil", 1);
        value("(< 'a 1)", "t", 1);
        value("(< 4611686018427387902 4611686018427387903)", "t", 1);
        value("(< nil 'a)", "nil", 1);
        value("(consp '(1))", "t", 1);
        value("(consp nil)", "nil", 1);
        value("(car '(1 2))", "1", 1);
        value("(cdr '(1 2))", "(2)", 1);
        value("(car 5)", "nil", 1);
        value("(cdr 'a)", "nil", 1);
        value("(natp 0)", "t", 1);
        value("(natp 'a)", "nil", 1);
        value("(natp '(1))", "nil", 1);
        value("(symbolp 'a)", "t", 1);
        value("(symbolp nil)", "t", 1);
        value("(symbolp t)", "t", 1);
        value("(symbolp 4)", "nil", 1);
        value("(symbolp '(a))", "nil", 1);
        value("(height 9)", "0", 1);
        value("(height '(a))", "1", 1);
        value("(height '(((a)) b c d))", "4", 1);
        value("(height '(((a b c)) . d))", "5", 1);
        value("(not nil)", "t", 1);
        value("(not 0)", "nil", 1);
        value("(not t)", "nil", 1);
        new Tester().unworked("(eval (+ 4611686018427387903 1))", 3, 1);
        new Tester().unworked("(eval (cons (+ 1 1) (+ (+ 1 4611686018427387902) 1)))", 3, 4);
        new Tester().due("(eval (if t 1 (+ 4611686018427387903 1)))", 0, "1", 1);
    }

    private static void terms() {
        Tester t = new Tester();
        for (String term : new String[] {"x", "(car x)", "(if t 1 x)", "(foo 1)", "(car)", "(car 1 2)", "(car . 1)",
            "(car 1 . 2)", "(1 2)", "((car) 1)", "(quote)", "(quote 1 2)", "(quote . a)", "(nil)", "(t 1)",
            "(cons 1 (foo 2))", "(if t 1)", "(+ 1)", "(not)", "(equal 1 2 3)"}) {
            t.due("(eval " + term + ")", 2, "", 0);
        }
        // Any symbol but nil and t is a variable, the names of functions too.
        t.due("(simplify (cons if quote))", 0, "(cons if quote)");
        t.due("(simplify (cons 'nil (cons '5 (cons 't '()))))", 0, "'(nil 5 t)");
        t.due("(simplify (cons x '5))", 0, "(cons x 5)");
        t.due("(simplify (cons x ''nil))", 0, "(cons x ''nil)");
    }

    private static void sizes() {
        Tester t = new Tester();
        // Each (+ 1 X) adds two to the SIZE; the nesting is too deep beyond 38, so the term branches.
        String nineteen = sum(9);
        String thirtyNine = "(+ " + nineteen + " " + nineteen + ")";
        String seventyNine = "(+ " + thirtyNine + " " + thirtyNine + ")";
        String oneNineteen = "(+ " + seventyNine + " " + thirtyNine + ")";
        t.due("(eval " + oneNineteen + ")", 0, "60", 59);
        t.due("(eval (not " + oneNineteen + "))", 0, "nil", 60);
        t.due("(eval (not (not " + oneNineteen + ")))", 2, "", 0);
        t.due("(eval (+ 1 " + oneNineteen + "))", 2, "", 0);
        // A constant counts one, however great it is.
        t.due("(eval (car '(" + "1 ".repeat(300) + ")))", 0, "1", 1);
    }

    private static String sum(int ones) {
        return ones == 0 ? "1" : "(+ 1 " + sum(ones - 1) + ")";
    }

    private static void defined() {
        Tester t = new Tester();
        t.done("(defun len (x) (if (consp x) (+ 1 (len (cdr x))) 0) (height x))");
        t.done("(defun k () 7)");
        t.done("(defun six (a b c d e f) (cons f (cons e (cons d (cons c (cons b a))))))");
        // A call of len on a pair: len, if, consp, +, cdr, and the same for the rest; on nil: len, if, consp.
        t.due("(eval (len nil))", 0, "0", 3);
        t.due("(eval (len '(1 2 3)))", 0, "3", 18);
        t.due("(eval (k))", 0, "7", 1);
        t.due("(eval (six 1 2 3 4 5 (k)))", 0, "(7 5 4 3 2 . 1)", 7);
        t.due("(eval (len (six (k) (k) (k) (k) (k) nil)))", 0, "5", 5 + 1 + 5 + 28);
        t.due("(eval (len))", 2, "").due("(eval (k 1))", 2, "").due("(eval (six 1 2 3 4 5))", 2, "");
        t.house.fuel(17);
        t.unworked("(eval (len '(1 2 3)))", 1, 17);
        t.house.fuel(18);
        t.due("(eval (len '(1 2 3)))", 0, "3", 18);
    }

    private static void tooDeep() {
        Tester t = new Tester();
        t.done("(defun down (n) (if (< 0 n) (down (- n 1)) 0) n)");
        // Each one of n adds two calls that are not ended, down and if; the last if has < in it.
        t.due("(eval (down 148))", 0, "0", 149 + 149 + 149 + 148);
        t.unworked("(eval (down 149))", 2, 150 + 150 + 149 + 149);
        t.unworked("(eval (down 150))", 2, 150 + 150 + 149 + 149);
        t.due("(eval (car (down 148)))", 0, "nil", 1 + 149 + 149 + 149 + 148);
        t.unworked("(eval (car (down 149)))", 2, 1 + 150 + 149 + 149 + 148);
        t.done("(defun sum (n) (if (< 0 n) (+ n (sum (- n 1))) 0) n)");
        t.due("(eval (sum 99))", 0, "4950", 5 * 99 + 3);
        t.unworked("(eval (sum 100))", 2, 100 + 100 + 100 + 100 + 99);
        t.house.fuel(100);
        t.unworked("(eval (down 150))", 1, 100);
    }

    private static void sharedParts() {
        // Objects whose parts are shared have more leaves than could ever be counted.
        Tester t = new Tester();
        t.done("(defun twice (n x) (if (< 0 n) (twice (- n 1) (cons x x)) x) n)");
        t.due("(eval (height (twice 100 1)))", 0, "100", 1 + 5 * 100 + 3);
        t.due("(eval (equal (twice 90 1) (twice 90 1)))", 0, "t", 1 + 2 * (5 * 90 + 3));
        t.due("(eval (equal (twice 90 1) (twice 90 2)))", 0, "nil", 1 + 2 * (5 * 90 + 3));
        t.run("(eval (twice 120 'a))");
        Tester.same("OUT of a shared one", t.out().substring(0, 130), "(".repeat(120) + "a . a) a .");
        Tester.same("its size", t.house.size(), 2000);
    }
}
