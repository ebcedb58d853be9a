/** Promises 1 to 13, call by call: of each sentence the last case that is allowed, the first that isn't, and what stays then. */
public final class PromiseBoundsTest {
    private static final int[] OUTSIDE = {-1, -2, Integer.MIN_VALUE, Integer.MAX_VALUE};
    private static final String LEN = "(defun len (x) (if (consp x) (+ 1 (len (cdr x))) 0) (height x))";

    public static void main(String[] args) {
        newObject();
        waitingBytes();
        orderOfBytes();
        bytesAreGone();
        refusedEnds();
        fullText();
        fuels();
        emptyText();
        faultOfReading();
        faultOfWork();
        steps();
        counts();
        countOfLeft();
        sizesAndLetters();
        taken();
        tell();
        refusedTell();
        recheckTrue();
        recheckFalse();
        manyCalls();
        Tester.finish();
    }

    private static void same(String what, long got, long due) {
        Tester.same(what, got, due);
    }

    private static void newObject() {
        Tester.sentence("Promise 1", "Nothing DEFINED, no theorems; no TEXT, OUT is empty");
        ProofHouse house = new ProofHouse();
        for (int what = 0; what <= 4; what++) {
            same("count " + what, house.count(what), 0);
        }
        same("size", house.size(), 0);
        same("letter", house.letter(0), ProofHouse.NONE);
        same("taken", house.taken(0), 0);
        same("tell", house.tell(0), -1);
        same("steps", house.steps(), 0);
        same("end", house.end(0), 0);
        same("fuel", house.fuel(1000), 1000);
        Tester.same("recheck", house.recheck(), false);
        same("run", house.run(), 1);
        same("its FAULT", house.fault(0) * 10 + house.fault(1), 30);
        // Two objects have nothing in common.
        Tester first = new Tester();
        Tester second = new Tester();
        first.done(LEN).feed("(eval");
        second.due("(eval (len nil))", 2, "");
        same("functions of the other one", second.house.count(0), 0);
    }

    private static void waitingBytes() {
        Tester.sentence("Promise 2", "Twenty bytes wait, those of a first, the highest of each first");
        ProofHouse house = new ProofHouse();
        house.feed(0x28657661, 0x6c202728, 0x61206220, 0x63206420, 0x65292920);
        same("all twenty", house.end(20), 20);
        same("run", house.run(), 0);
        same("size", house.size(), 11);
        same("letter 9", house.letter(9), 'e');
        house.feed(0x28657661, 0x6c202728, 0x61206220, 0x63206420, 0x65292920);
        same("nineteen", house.end(19), 19);
        same("run", house.run(), 0);
        house.feed(0x28657661, 0x6c202728, 0x61206220, 0x63206420, 0x65292920);
        same("eighteen", house.end(18), 18);
        same("run", house.run(), 1);
        same("its place", house.fault(1), 18);
        // The latest feed counts.
        house.feed(-1, -1, -1, -1, -1);
        house.feed(0x28657661, 0x6c203129, 0, 0, 0);
        same("the second feed", house.end(8), 8);
        same("run", house.run() * 100 + house.letter(0), '1');
    }

    private static void orderOfBytes() {
        Tester.sentence("Promise 2", "those of a first, the highest of each first");
        // A byte 200 at each place in turn: the FAULT is there.
        for (int k = 0; k < 20; k++) {
            int[] words = {0x20202020, 0x20202020, 0x20202020, 0x20202020, 0x20202020};
            words[k / 4] = words[k / 4] & ~(255 << 24 - k % 4 * 8) | 200 << 24 - k % 4 * 8;
            ProofHouse house = new ProofHouse();
            house.feed(words[0], words[1], words[2], words[3], words[4]);
            same("end", house.end(20), 20);
            same("run", house.run(), 1);
            same("FAULT", house.fault(0), 1);
            same("place", house.fault(1), k);
        }
    }

    private static void bytesAreGone() {
        Tester.sentence("Promise 2", "They are 0 at first, and behind each end() that is not refused");
        ProofHouse house = new ProofHouse();
        same("bytes 0 at first", house.end(20), 20);
        same("run", house.run() * 100 + house.fault(0) * 10 + house.fault(1), 110);
        house.feed(0x28657661, 0x6c203129, 0, 0, 0);
        same("end 0", house.end(0), 0);
        same("bytes 0 then", house.end(8), 8);
        same("run", house.run() * 100 + house.fault(0) * 10 + house.fault(1), 110);
        house.feed(0x28657661, 0x6c203129, 0x41000000, 0, 0);
        same("eight", house.end(8), 8);
        same("the ninth is 0", house.end(1), 9);
        same("run", house.run() * 100 + house.fault(0) * 10 + house.fault(1), 118);
        // They wait through refused ends, and through all other calls.
        house.feed(0x28657661, 0x6c203129, 0, 0, 0);
        for (int n : OUTSIDE) {
            same("end " + n, house.end(n), -1);
        }
        same("end 21", house.end(21), -1);
        same("run of no TEXT", house.run(), 1);
        house.fuel(5);
        house.recheck();
        house.tell(0);
        same("they still wait", house.end(8), 8);
        same("run", house.run(), 0);
    }

    private static void refusedEnds() {
        Tester.sentence("Promise 3", "NONE, refused, when n isn't 0 .. 20, or there would be more than 3000");
        for (int n = 0; n <= 20; n++) {
            same("end " + n, new ProofHouse().end(n), n);
        }
        for (int n : OUTSIDE) {
            same("end " + n, new ProofHouse().end(n), -1);
        }
        same("end 21", new ProofHouse().end(21), -1);
        same("end 3000", new ProofHouse().end(3000), -1);
        Tester t = new Tester();
        t.feed("(eval '(a b");
        for (int n : OUTSIDE) {
            same("refused", t.house.end(n), -1);
        }
        same("refused", t.house.end(21), -1);
        same("the TEXT stays", t.house.end(0), 11);
        t.due("))", 0, "(a b)");
    }

    private static void fullText() {
        Tester.sentence("Promise 3", "The first n of the bytes that wait come behind the TEXT: how many it has");
        ProofHouse house = new ProofHouse();
        for (int k = 1; k <= 149; k++) {
            house.feed(0x20202020, 0x20202020, 0x20202020, 0x20202020, 0x20202020);
            same("end", house.end(20), 20 * k);
        }
        house.feed(0x28657661, 0x6c203129, 0x20202020, 0x20202020, 0x20202020);
        same("the first eight", house.end(8), 2988);
        house.feed(0x20202020, 0x20202020, 0x20202020, 0x20202020, 0x20202020);
        for (int n = 13; n <= 20; n++) {
            same("more than 3000", house.end(n), -1);
        }
        same("3000", house.end(12), 3000);
        same("one more", house.end(1), -1);
        same("none more", house.end(0), 3000);
        same("run", house.run(), 0);
        same("the TEXT is empty", house.end(0), 0);
    }

    private static void fuels() {
        Tester.sentence("Promise 4", "The FUEL of commands to come: what it was. NONE, refused, when n isn't 1 .. 1000");
        Tester t = new Tester();
        same("fuel 1", t.house.fuel(1), 1000);
        for (int n : OUTSIDE) {
            same("fuel " + n, t.house.fuel(n), -1);
        }
        same("fuel 0", t.house.fuel(0), -1);
        same("fuel 1001", t.house.fuel(1001), -1);
        t.due("(eval (not 1))", 0, "nil", 1).unworked("(eval (not (not 1)))", 1, 1);
        same("fuel 1000", t.house.fuel(1000), 1);
        same("fuel 999", t.house.fuel(999), 1000);
        same("fuel 2", t.house.fuel(2), 999);
        t.due("(eval (not (not 1)))", 0, "t", 2).unworked("(eval (not (not (not 1))))", 1, 2);
    }

    private static void emptyText() {
        Tester.sentence("Promise 5", "The TEXT, which is empty then, is read and done: the ANSWER");
        Tester t = new Tester();
        for (String order : new String[] {"(eval 1)", "(eval", "(evil)", "(undo)", "(eval (+ 4611686018427387903 1))",
            "(defun f (x) (f x) x)", "(prove x)", "(check a t (no))"}) {
            t.run(order);
            same("the TEXT behind " + order, t.house.end(0), 0);
            t.unread("", 3, 0);
        }
    }

    private static void faultOfReading() {
        Tester.sentence("Promise 6", "Of the latest run(): the FAULT of READING (what 0), its place (1), the FAULT OF "
                + "WORK (2), "
                + "each 0 without one (the place NONE), or before. NONE for another what");
        Tester t = new Tester();
        same("before", t.house.fault(0) + t.house.fault(2), 0);
        same("place before", t.house.fault(1), -1);
        for (int what : OUTSIDE) {
            same("fault " + what, t.house.fault(what), -1);
        }
        same("fault 3", t.house.fault(3), -1);
        t.unread(")", 3, 0);
        same("no FAULT OF WORK", t.house.fault(2), 0);
        t.feed("(eval 1)");
        same("it stays until the next run", t.house.fault(0) * 10 + t.house.fault(1), 30);
        same("run", t.house.run(), 0);
        same("none", t.house.fault(0), 0);
        same("no place", t.house.fault(1), -1);
        for (String order : new String[] {"(evil)", "(undo)", "(prove x)", "(check a t no)"}) {
            t.unread(")", 3, 0);
            t.run(order);
            same("none behind " + order, t.house.fault(0), 0);
            same("no place behind " + order, t.house.fault(1), -1);
            same("no FAULT OF WORK behind " + order, t.house.fault(2), 0);
        }
    }

    private static void faultOfWork() {
        Tester.sentence("Promise 6", "the FAULT OF WORK (2), each 0 without one .. 1 OUT OF FUEL (a STEP more than FUEL), "
                + "2 TOO DEEP, 3 TOO GREAT, 4 TOO BIG");
        Tester t = new Tester();
        t.done("(defun w (x) (cons x x))").done("(defun g (x) " + Texts.chain("car", 37, "x") + ")");
        String[] orders = {"(eval (not (not 1)))", "(simplify " + Texts.chain("car", 22, "(g x)") + ")",
            "(eval (+ 4611686018427387903 1))", "(simplify (w " + Texts.sized(60, "y") + "))"};
        for (int k = 0; k < 4; k++) {
            t.house.fuel(k == 0 ? 1 : 1000);
            same(orders[k], t.run(orders[k]), 4);
            same("the FAULT OF WORK", t.house.fault(2), k + 1);
            same("no FAULT of READING", t.house.fault(0), 0);
            same("no place", t.house.fault(1), -1);
            t.run(k % 2 == 0 ? "(eval 1)" : "(eval");
            same("gone", t.house.fault(2), 0);
        }
    }

    private static void steps() {
        Tester.sentence("Promise 7", "How many STEPS the latest run() made (with OUT OF FUEL its FUEL; 0 with the "
                + "ANSWERS 1, 2, 3, 8)");
        Tester t = new Tester();
        same("before", t.house.steps(), 0);
        t.due("(eval (not 1))", 0, "nil", 1).due("(eval (", 1, "", 0).due("(eval (not 1))", 0, "nil", 1);
        t.due("(evil)", 2, "", 0);
        t.due("(eval (not 1))", 0, "nil", 1).due("(undo)", 3, "", 0).due("(eval (not 1))", 0, "nil", 1);
        t.due("(eval 1)", 0, "1", 0);
        t.due("(prove x)", 6, "((x))", 1).due("(defun f (x) (f x) 0)", 5, "(nil)", 3);
        t.due("(check a t (same x))", 7, "((equal x x))", 1);
        for (int k = 0; k < 40; k++) {
            t.done("(defun f" + k + " (x) x)");
        }
        t.due("(eval (not 1))", 0, "nil", 1).due("(defun f (x) (f x) 0)", 8, "", 0);
        for (int fuel = 1; fuel <= 3; fuel++) {
            t.house.fuel(fuel);
            t.unworked("(eval (not (not (not (not 1)))))", 1, fuel);
        }
        same("it stays through other calls", t.house.fuel(1000) + t.house.steps(), 6);
        t.house.recheck();
        t.house.tell(0);
        t.feed("(eval 1)");
        same("it stays until the next run", t.house.steps(), 3);
    }

    private static void counts() {
        Tester.sentence("Promise 8", "How many functions are DEFINED (what 0), theorems (1), RULES (2), RULES that "
                + "are ON (3), .. NONE for another what");
        Tester t = new Tester();
        for (int what : OUTSIDE) {
            same("count " + what, t.house.count(what), -1);
        }
        same("count 5", t.house.count(5), -1);
        t.done("(defun c (x) 3)").done("(defthm a (equal (c x) 3))").done("(defthm b (equal x x))");
        t.done("(check d (equal (c x) 3) (def c))");
        same("counts", t.house.count(0) * 1000 + t.house.count(1) * 100 + t.house.count(2) * 10 + t.house.count(3), 1322);
        t.done("(off a)");
        same("counts", t.house.count(0) * 1000 + t.house.count(1) * 100 + t.house.count(2) * 10 + t.house.count(3), 1321);
        t.done("(undo)");
        same("counts", t.house.count(0) * 1000 + t.house.count(1) * 100 + t.house.count(2) * 10 + t.house.count(3), 1210);
        // A HINT that turns one off leaves it as it was.
        t.done("(on a)").done("(prove t (off a))");
        same("ON", t.house.count(3), 1);
    }

    private static void countOfLeft() {
        Tester.sentence("Promise 8", "clauses that were LEFT in the latest run() (4; 0 with other ANSWERS than 5, 6)");
        Tester t = new Tester();
        t.due("(prove (if x y z))", 6, "(((not x) y) (x z))");
        same("two", t.house.count(4), 2);
        t.house.tell(0);
        t.house.recheck();
        t.feed("(eval 1)");
        same("two until the next run", t.house.count(4), 2);
        same("run", t.house.run(), 0);
        same("none", t.house.count(4), 0);
        t.due("(defun f (x) (f x) 0)", 5, "(nil)");
        same("one", t.house.count(4), 1);
        String[] orders = {"(prove", "(evil)", "(undo)", "(eval (+ 4611686018427387903 1))", "(prove t)", "(check a t (same x))", "(eval 1)"};
        for (String order : orders) {
            t.due("(prove x)", 6, "((x))");
            t.run(order);
            same("LEFT behind " + order, t.house.count(4), 0);
        }
        t.house.fuel(8);
        t.unworked("(prove (if x y z))", 1, 8);
        same("LEFT with a FAULT OF WORK", t.house.count(4), 0);
    }

    private static void sizesAndLetters() {
        Tester.sentence("Promise 9", "How many characters OUT has");
        Tester t = new Tester();
        t.due("(eval '(a b))", 0, "(a b)");
        same("size", t.house.size(), 5);
        Tester.sentence("Promise 10", "Character k of OUT; NONE when there is none");
        same("letter 0", t.house.letter(0), '(');
        same("letter 4", t.house.letter(4), ')');
        same("letter 5", t.house.letter(5), -1);
        for (int k : OUTSIDE) {
            same("letter " + k, t.house.letter(k), -1);
        }
        // What an earlier OUT had is not seen behind a shorter one.
        t.due("(eval 'c)", 0, "c");
        same("letter 1", t.house.letter(1), -1);
        t.due("(prove t)", 0, "");
        same("size of an empty OUT", t.house.size(), 0);
        same("letter of an empty OUT", t.house.letter(0), -1);
    }

    private static void taken() {
        Tester.sentence("Promise 11", "What was taken as the k-th (from 0 on; function or theorem, those that are "
                + "gone left out): "
                + "1 a function, 2 a theorem by defthm, 3 one by check; 0 when there is none");
        Tester t = new Tester();
        t.done("(check a (equal 1 1) (same 1))").done("(defun f (x) x)").done("(defthm b t)").done("(defun g (x) x)");
        same("taken", t.house.taken(0) * 1000 + t.house.taken(1) * 100 + t.house.taken(2) * 10 + t.house.taken(3), 3121);
        same("taken 4", t.house.taken(4), 0);
        for (int k : OUTSIDE) {
            same("taken " + k, t.house.taken(k), 0);
        }
        t.done("(undo)").done("(undo)");
        same("taken 2", t.house.taken(2), 0);
        t.done("(check c (equal 1 1) (same 1))");
        same("taken 2", t.house.taken(2), 3);
        same("taken 3", t.house.taken(3), 0);
        t.done("(prove t)").due("(defthm d nil)", 6, "(nil)").due("(defun f (x) 1)", 3, "");
        same("taken 3", t.house.taken(3), 0);
    }

    private static void tell() {
        Tester.sentence("Promise 12", "told as the list (defun f (x ..) T) or, when it has calls of itself, (defun f "
                + "(x ..) T M), or (theorem n F), "
                + "its terms with their constants as said: how many characters OUT has");
        Tester t = new Tester();
        String[] orders = {"(defun f (x y) (cons '5 'a))", "(defun k () 'nil)", LEN.replace("1", "'1"), "(defthm a (equal 't t))",
            "(check b (equal '(1) '(1)) (same '(1)))"};
        String[] dues = {"(defun f (x y) (cons 5 'a))", "(defun k nil nil)", LEN, "(theorem a (equal t t))",
            "(theorem b (equal '(1) '(1)))"};
        for (String order : orders) {
            t.done(order);
        }
        for (int k = 0; k < dues.length; k++) {
            same("tell " + k, t.house.tell(k), dues[k].length());
            Tester.same("told " + k, t.out(), dues[k]);
            same("size", t.house.size(), dues[k].length());
        }
        // With (defun l nil '( and )) around it: 2000 characters, 2001 and 2002.
        String list = "abcdefghijk ".repeat(165);
        t.done("(defun l () '(" + list + "abc))");
        same("2000 of 2000", t.house.tell(5), 15 + 165 * 12 + 3 + 2);
        Tester.same("told", t.out(), "(defun l nil '(" + list + "abc))");
        t.done("(undo)").done("(defun l () '(" + list + "abcd))");
        same("2000 of 2001", t.house.tell(5), 2000);
        Tester.same("told", t.out(), "(defun l nil '(" + list + "abcd)");
        same("none behind", t.house.letter(2000), -1);
        t.done("(undo)").done("(defun l () '(" + list + "abcde))");
        same("2000 of 2002", t.house.tell(5), 2000);
        Tester.same("told", t.out(), "(defun l nil '(" + list + "abcde");
    }

    private static void refusedTell() {
        Tester.sentence("Promise 12", "NONE, and OUT stays, when there is none");
        Tester t = new Tester();
        t.done("(defun f (x) x)").due("(eval 'stays)", 0, "stays");
        for (int k : OUTSIDE) {
            same("tell " + k, t.house.tell(k), -1);
            Tester.same("OUT", t.out(), "stays");
        }
        same("tell 1", t.house.tell(1), -1);
        Tester.same("OUT", t.out(), "stays");
        same("tell 0", t.house.tell(0), 15);
        t.done("(undo)").due("(eval 'stays)", 0, "stays");
        same("tell 0", t.house.tell(0), -1);
        Tester.same("OUT", t.out(), "stays");
    }

    private static void recheckTrue() {
        Tester.sentence("Promise 13", "are found right by a checker that asks each one by itself .. Else always true");
        Tester t = new Tester();
        for (String order : new String[] {"(prove t)", "(prove (equal x x))", LEN, "(defthm a (natp (len x)) (induct (len x)))",
            "(prove (natp (len y)))", "(defthm b (equal (len (cons x y)) (+ 1 (len y))) (off a) (use a))"}) {
            same(order, t.run(order), 0);
            Tester.same("recheck behind " + order, t.house.recheck(), true);
            t.house.fuel(1);
            t.house.tell(0);
            t.feed("(");
            Tester.same("once more, behind other calls", t.house.recheck(), true);
            t.house.run();
            Tester.same("not behind another run", t.house.recheck(), false);
            t.house.fuel(1000);
        }
    }

    private static void recheckFalse() {
        Tester.sentence("Promise 13", "False when it had no TO PROVE that left nothing (so behind a defun without "
                + "calls of itself, or check)");
        Tester t = new Tester();
        Tester.same("before", t.house.recheck(), false);
        for (String order : new String[] {"(prove", "(evil)", "(undo)", "(eval (+ 4611686018427387903 1))", "(eval 1)", "(simplify 1)",
            "(defun f (x) x)", "(defun g (x) (g x) 0)", "(prove x)", "(defthm a x)", "(check a (equal 1 1) (same 1))",
            "(check b (equal 1 1) (same 2))", "(undo)", "(undo)"}) {
            t.done("(prove (equal x x))");
            Tester.same("recheck", t.house.recheck(), true);
            t.run(order);
            Tester.same("recheck behind " + order, t.house.recheck(), false);
        }
        t.house.fuel(2);
        t.unworked("(prove (equal x x))", 1, 2);
        Tester.same("recheck behind a FAULT", t.house.recheck(), false);
    }

    private static void manyCalls() {
        Tester.sentence("What it is", "An object is used for at most 512 calls after it has been made");
        // Each text is fed in one call and ended in one: 128 runs, each with what it proved asked again.
        ProofHouse house = new ProofHouse();
        int answers = 0;
        for (int k = 0; k < 128; k++) {
            house.feed(0x2870726f, 0x76652028, 0x65717561, 0x6c207820, 0x78292900);
            answers += house.end(19) == 19 ? 1 : 0;
            answers += house.run() == 0 ? 1 : 0;
            answers += house.recheck() ? 1 : 0;
        }
        same("answers of 512 calls", answers, 3 * 128);
    }
}
