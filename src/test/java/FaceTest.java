/** Promises 1 to 4, 9 and 10: a new object, feed, end, fuel, size, letter. */
public final class FaceTest {
    public static void main(String[] args) {
        newObject();
        feedAndEnd();
        bytesOfAllWords();
        fullText();
        fuel();
        sizeAndLetter();
        Tester.finish();
    }

    private static void newObject() {
        ProofHouse house = new ProofHouse();
        Tester.same("NONE", ProofHouse.NONE, -1);
        for (int what = 0; what <= 4; what++) {
            Tester.same("count of a new one " + what, house.count(what), 0);
        }
        Tester.same("size of a new one", house.size(), 0);
        Tester.same("letter of a new one", house.letter(0), -1);
        Tester.same("taken of a new one", house.taken(0), 0);
        Tester.same("tell of a new one", house.tell(0), -1);
        Tester.same("recheck of a new one", house.recheck(), false);
        Tester.same("steps of a new one", house.steps(), 0);
        Tester.same("fault 0 of a new one", house.fault(0), 0);
        Tester.same("fault 1 of a new one", house.fault(1), -1);
        Tester.same("fault 2 of a new one", house.fault(2), 0);
        Tester.same("fuel of a new one", house.fuel(1000), 1000);
        Tester.same("end 0 of a new one", house.end(0), 0);
        Tester.same("run of an empty TEXT", house.run(), 1);
        Tester.same("its FAULT", house.fault(0), 3);
        Tester.same("its place", house.fault(1), 0);
    }

    private static void feedAndEnd() {
        ProofHouse house = new ProofHouse();
        house.feed(0x28657661, 0x6c203529, 0, 0, 0);
        Tester.same("end -1", house.end(-1), -1);
        Tester.same("end 21", house.end(21), -1);
        Tester.same("end of what waits behind refused ones", house.end(8), 8);
        Tester.same("run (eval 5)", house.run(), 0);
        Tester.same("its letter", house.letter(0), (int) '5');
        Tester.same("the TEXT is empty behind run", house.end(0), 0);
        house.feed(0x28657661, 0x6c203529, 0, 0, 0);
        Tester.same("end 0 takes nothing", house.end(0), 0);
        Tester.same("but the bytes are 0 then", house.end(3), 3);
        Tester.same("run of three bytes 0", house.run(), 1);
        Tester.same("their FAULT", house.fault(0), 1);
        Tester.same("their place", house.fault(1), 0);
        house.feed(0x61616161, 0x61616161, 0, 0, 0);
        house.feed(0x28657661, 0x6c203729, 0, 0, 0);
        Tester.same("a second feed stands instead of the first", house.end(8), 8);
        Tester.same("run (eval 7)", house.run(), 0);
        Tester.same("its letter", house.letter(0), (int) '7');
        house.feed(0x28657661, 0x6c202731, 0, 0, 0);
        Tester.same("a first piece", house.end(7), 7);
        house.feed(0x39290000, 0, 0, 0, 0);
        Tester.same("a second piece comes behind", house.end(2), 9);
        Tester.same("run (eval '9)", house.run(), 0);
        Tester.same("its letter", house.letter(0), (int) '9');
    }

    private static void bytesOfAllWords() {
        ProofHouse house = new ProofHouse();
        house.feed(0x28657661, 0x6c202761, 0x62636465, 0x66676869, 0x6a6b2920);
        Tester.same("end 20", house.end(20), 20);
        Tester.same("run of twenty bytes", house.run(), 0);
        StringBuilder out = new StringBuilder();
        for (int k = 0; k < house.size(); k++) {
            out.append((char) house.letter(k));
        }
        Tester.same("their OUT", out.toString(), "abcdefghijk");
        house.feed(0x28ff0000, 0, 0, 0, 0);
        Tester.same("end of a negative byte", house.end(2), 2);
        Tester.same("run of it", house.run(), 1);
        Tester.same("its FAULT", house.fault(0), 1);
        Tester.same("its place", house.fault(1), 1);
    }

    private static void fullText() {
        Tester t = new Tester();
        t.feed(" ".repeat(2990));
        t.house.feed(0x28657661, 0x6c203829, 0x20202020, 0, 0);
        Tester.same("more than 3000", t.house.end(11), -1);
        Tester.same("what waited still waits", t.house.end(10), 3000);
        Tester.same("nothing more", t.house.end(1), -1);
        Tester.same("but none", t.house.end(0), 3000);
        Tester.same("run of 3000", t.house.run(), 0);
        Tester.same("its OUT", t.out(), "8");
        Tester.same("empty behind it", t.house.end(20), 20);
    }

    private static void fuel() {
        Tester t = new Tester();
        Tester.same("fuel 0", t.house.fuel(0), -1);
        Tester.same("fuel 1001", t.house.fuel(1001), -1);
        Tester.same("fuel -5", t.house.fuel(-5), -1);
        Tester.same("fuel 1", t.house.fuel(1), 1000);
        t.due("(eval (+ 1 2))", 0, "3", 1);
        t.unworked("(eval (+ 1 (+ 1 2)))", 1, 1);
        Tester.same("fuel 2", t.house.fuel(2), 1);
        t.due("(eval (+ 1 (+ 1 2)))", 0, "4", 2);
        Tester.same("fuel 1000", t.house.fuel(1000), 2);
        Tester.same("it stays", t.house.fuel(1000), 1000);
    }

    private static void sizeAndLetter() {
        Tester t = new Tester();
        t.run("(eval '(a b))");
        Tester.same("size", t.house.size(), 5);
        Tester.same("letter 0", t.house.letter(0), (int) '(');
        Tester.same("letter 4", t.house.letter(4), (int) ')');
        Tester.same("letter 5", t.house.letter(5), -1);
        Tester.same("letter -1", t.house.letter(-1), -1);
        Tester.same("letter of the greatest", t.house.letter(Integer.MAX_VALUE), -1);
        t.feed("(eval");
        Tester.same("OUT stays while a TEXT grows", t.out(), "(a b)");
        t.due("", 1, "");
        String items = "ab ".repeat(400);
        t.due("(eval '(" + items + "))", 0, ("(" + items.trim() + ")").substring(0, 1201));
        // What a pair of the whole is told as has more than 2000 characters; only the first 2000 are OUT.
        t.done("(defun twice (n x) (if (< 0 n) (twice (- n 1) (cons x x)) x) n)");
        t.run("(eval (twice 12 'abc))");
        Tester.same("size of a great OUT", t.house.size(), 2000);
        Tester.same("its start", t.out().substring(0, 24), "((((((((((((abc . abc) a");
        Tester.same("letter 1999", t.house.letter(1999) != -1, true);
        Tester.same("letter 2000", t.house.letter(2000), -1);
    }
}
