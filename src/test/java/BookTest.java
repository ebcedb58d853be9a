/** Promises 8, 11 and 12, and undo: count, taken, tell. */
public final class BookTest {
    public static void main(String[] args) {
        takenAndTold();
        undo();
        tellIsCut();
        count();
        Tester.finish();
    }

    private static void told(Tester t, int k, String text) {
        Tester.same("tell " + k, t.house.tell(k), text.length());
        Tester.same("told " + k, t.out(), text);
        Tester.same("size of it", t.house.size(), text.length());
    }

    private static Tester filled() {
        Tester t = new Tester();
        t.done("(defun f (x) (cons x '5))");
        t.done("(defun len (x) (if (consp x) (+ '1 (len (cdr x))) 0) (height x))");
        t.done("(defthm a (implies (consp x) (equal (car (cons '(a . 'b) 'nil)) '(a . 'b))))");
        t.done("(check b (equal (f x) (cons x 5)) (def f))");
        return t;
    }

    private static void takenAndTold() {
        Tester t = filled();
        Tester.same("taken", t.house.taken(0) * 1000 + t.house.taken(1) * 100 + t.house.taken(2) * 10 + t.house.taken(3), 1123);
        Tester.same("taken 4", t.house.taken(4), 0);
        Tester.same("taken -1", t.house.taken(-1), 0);
        Tester.same("taken of the greatest", t.house.taken(Integer.MAX_VALUE), 0);
        Tester.same("taken of the least", t.house.taken(Integer.MIN_VALUE), 0);
        told(t, 0, "(defun f (x) (cons x 5))");
        told(t, 1, "(defun len (x) (if (consp x) (+ 1 (len (cdr x))) 0) (height x))");
        told(t, 2, "(theorem a (implies (consp x) (equal (car (cons '(a quote b) nil)) '(a quote b))))");
        told(t, 3, "(theorem b (equal (f x) (cons x 5)))");
        Tester.same("tell 4", t.house.tell(4), -1);
        Tester.same("tell -1", t.house.tell(-1), -1);
        Tester.same("tell of the greatest", t.house.tell(Integer.MAX_VALUE), -1);
        Tester.same("OUT stays", t.out(), "(theorem b (equal (f x) (cons x 5)))");
        t.due("(eval 1)", 0, "1");
        Tester.same("tell 9", t.house.tell(9), -1);
        Tester.same("OUT stays", t.out(), "1");
        t.done("(defun none () t)");
        told(t, 4, "(defun none nil t)");
    }

    private static void undo() {
        Tester t = filled();
        t.due("(undo 1)", 2, "", 0).due("(undo . 1)", 2, "", 0);
        t.due("(undo)", 0, "", 0);
        Tester.same("theorems", t.house.count(1), 1);
        Tester.same("taken 3", t.house.taken(3), 0);
        Tester.same("tell 3", t.house.tell(3), -1);
        t.done("(undo)");
        Tester.same("theorems", t.house.count(1), 0);
        Tester.same("functions", t.house.count(0), 2);
        t.done("(undo)");
        t.due("(eval (len nil))", 2, "").due("(eval (f 1))", 0, "(1 . 5)");
        t.done("(defun len (y) y)").due("(eval (len 3))", 0, "3");
        told(t, 1, "(defun len (y) y)");
        t.done("(undo)").done("(undo)").due("(undo)", 3, "", 0);
        Tester.same("taken 0", t.house.taken(0), 0);
        // What a command that isn't done was to give can't be taken back.
        t.done("(defun f (x) x)").due("(defthm a (f x))", 6, "((x))").due("(prove t)", 0, "").done("(undo)");
        Tester.same("functions", t.house.count(0), 0);
        // on and off are not taken back; a name can be given again.
        t.done("(defun f (x) 1)").done("(defthm a (equal (f x) 1))").done("(off a)").done("(defthm b t)").done("(undo)");
        Tester.same("ON", t.house.count(3), 0);
        t.done("(undo)").done("(defthm a (equal (f x) 1))");
        Tester.same("ON", t.house.count(3), 1);
    }

    private static void tellIsCut() {
        Tester t = new Tester();
        String many = "abcdefghij ".repeat(220);
        t.done("(defun long () '(" + many + "))");
        Tester.same("tell of a long one", t.house.tell(0), 2000);
        Tester.same("told", t.out(), ("(defun long nil '(" + many).substring(0, 2000));
        Tester.same("letter 2000", t.house.letter(2000), -1);
    }

    private static void count() {
        Tester t = new Tester();
        Tester.same("count 5", t.house.count(5), -1);
        Tester.same("count -1", t.house.count(-1), -1);
        t.done("(defun f (x) 1)").done("(defthm a (equal (f x) 1))").done("(defthm b t)").done("(defthm c (natp (f x)))");
        Tester.same("functions", t.house.count(0), 1);
        Tester.same("theorems", t.house.count(1), 3);
        Tester.same("RULES", t.house.count(2), 2);
        Tester.same("ON", t.house.count(3), 2);
        t.done("(off c)");
        Tester.same("RULES", t.house.count(2), 2);
        Tester.same("ON", t.house.count(3), 1);
        t.run("(prove (if x y z))");
        Tester.same("LEFT", t.house.count(4), 2);
        t.run("(prove (if x y");
        Tester.same("LEFT", t.house.count(4), 0);
    }
}
