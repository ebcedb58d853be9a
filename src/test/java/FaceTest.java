/** Promises 1 to 4, 9 and 10: a new object, feed, end, fuel, size, letter. */
public final class FaceTest {
    public static void main(String[] args) {
        Tester t = new Tester();
        Tester.same("NONE", ProofHouse.NONE, -1);
        Tester.same("size of a new one", t.house.size(), 0);
        Tester.same("letter of a new one", t.house.letter(0), -1);
        t.due("(eval (+ 1 2))", 0, "3", 1);
        Tester.finish();
    }
}
