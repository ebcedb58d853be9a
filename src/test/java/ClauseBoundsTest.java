/** Terms 5, CLAUSES and TO PROVE: of each sentence that names a limit the last case that is allowed and the first that isn't. */
public final class ClauseBoundsTest {
    private static final String WHERE = "Terms 5";
    private static final String THIRTY = "One of more than 30, or whose SIZES together are above 400, is TOO BIG, as it is made";

    public static void main(String[] args) {
        cameFirst();
        thirtyGiven();
        thirtyOfRulers();
        thirtyOfInduction();
        thirtyOfTwo();
        sizesGiven();
        sizesOfTwo();
        sizesBehindARound();
        twentyLeft();
        provedAtOnce();
        sixRounds();
        roundsOfTwo();
        contexts();
        comesOut();
        becomesTwo();
        standsInstead();
        withoutLiterals();
        changes();
        Tester.finish();
    }

    /** Names a theorem that says nothing, for any x, and whose NOT goes in the first ROUND, or (q x), whose NOT stays. */
    private static Tester prepared() {
        Tester t = new Tester();
        t.done("(defthm a (if x t t))");
        t.done("(defun q (x) (if (consp x) (q (cdr x)) t) (height x))").done("(defthm b (q x) (induct (q x)))").done("(off b)");
        return t;
    }

    private static String uses(String theorem, int from, int to) {
        StringBuilder uses = new StringBuilder();
        for (int k = from; k < to; k++) {
            uses.append(" (use ").append(theorem).append(" (x v").append(k).append("))");
        }
        return uses.toString();
    }

    private static void cameFirst() {
        Tester.sentence(WHERE, "CLAUSES are rows of different terms, the LITERALS (one that would come twice stands "
                + "where it came first)");
        Tester t = prepared();
        t.due("(prove (equal 1 2) (use b (x y)) (use b (x z)) (use b (x y)))", 6, "(((not (q y)) (not (q z))))");
        t.due("(check n t (weak (x y x (not x) z y) (taut x)))", 7, "(x (not x) y z)");
        t.due("(check n t (inst (weak (y z) (taut x)) (z x) (y (not x))))", 7, "(x (not x))");
    }

    private static void thirtyGiven() {
        Tester.sentence(WHERE, THIRTY);
        Tester t = prepared();
        // Each NOT of the theorem a makes five STEPS and goes.
        t.due("(prove z" + uses("a", 0, 29) + ")", 6, "((z))", 29 * 5 + 1 + 1);
        t.unworked("(prove z" + uses("a", 0, 30) + ")", 4, 0);
        // What comes twice counts once.
        t.due("(prove z" + uses("a", 0, 29) + uses("a", 0, 29) + ")", 6, "((z))", 29 * 5 + 1 + 1);
        t.unworked("(prove z" + uses("a", 0, 29) + uses("a", 28, 30) + ")", 4, 0);
        t.due("(prove (not (if v0 t t))" + uses("a", 0, 30) + ")", 6, "(nil)", 30 * 5);
    }

    /** f with so many RULERS in a row ahead of its only call. */
    private static String ruled(int rulers) {
        StringBuilder body = new StringBuilder("(f)");
        for (int k = rulers - 1; k >= 0; k--) {
            body.insert(0, "(if (k" + k + ") 0 ").append(')');
        }
        return "(defun f () " + body + " 0)";
    }

    private static void thirtyOfRulers() {
        Tester.sentence(WHERE, THIRTY);
        Tester t = new Tester();
        for (int k = 0; k < 30; k++) {
            t.done("(defun k" + k + " () nil)");
        }
        // Each (k) goes behind two STEPS, (< 0 0) behind three.
        t.due(ruled(29), 5, "(nil)", 29 * 2 + 3).unworked(ruled(30), 4, 0);
    }

    private static void thirtyOfInduction() {
        Tester.sentence(WHERE, THIRTY);
        Tester t = new Tester();
        // One PATH has the RULER nil, so t, and so many calls, each with another F2: NOT (car k).
        for (int calls = 28; calls <= 29; calls++) {
            StringBuilder all = new StringBuilder("0");
            for (int k = 0; k < calls; k++) {
                all.insert(0, "(cons (f " + k + ") ").append(')');
            }
            t.due("(defun f (x) (if nil " + all + " 0) 0)", 0, "", 0);
            if (calls == 28) {
                t.due("(prove (car x) (induct (f x)))", 6, "(((car x)))", 1 + 2 + 2);
            } else {
                t.unworked("(prove (car x) (induct (f x)))", 4, 0);
            }
            t.done("(undo)");
        }
    }

    private static void thirtyOfTwo() {
        Tester.sentence(WHERE, THIRTY);
        Tester t = prepared();
        // Each (not (q v)) stays, behind five STEPS; r s p are if's four with it.
        Tester.same("28 and two", t.run("(prove (if r s p)" + uses("b", 0, 28) + ")"), 6);
        Tester.same("28 and two, STEPS", t.house.steps(), 3 * 28 * 5 + 4 + 3 + 2);
        t.unworked("(prove (if r s p)" + uses("b", 0, 29) + ")", 4, 29 * 5 + 4);
        t.unworked("(prove (not (if r s p))" + uses("b", 0, 29) + ")", 4, 29 * 5 + 5);
        Tester.same("29 and one", t.run("(prove r" + uses("b", 0, 29) + ")"), 6);
    }

    private static void sizesGiven() {
        Tester.sentence(WHERE, THIRTY);
        Tester t = prepared();
        StringBuilder three = new StringBuilder();
        for (String v : new String[] {"u", "v", "w"}) {
            // (not (if x t t)) with 116 for x has 120.
            three.append(" (use a (x ").append(Texts.sized(116, v)).append("))");
        }
        String forty = Texts.sized(40, "z");
        t.due("(prove " + forty + three + ")", 6, "((" + forty + "))", 3 * 120 + 2 * 40);
        t.unworked("(prove " + Texts.sized(41, "z") + three + ")", 4, 0);
        t.due("(prove " + Texts.sized(39, "z") + three + ")", 6, "((" + Texts.sized(39, "z") + "))", 3 * 120 + 2 * 39);
        // In a PROOF: (equal x x) has 3.
        String all = Texts.sized(119, "u") + " " + Texts.sized(119, "v") + " " + Texts.sized(119, "w") + " ";
        Tester.same("400 in a PROOF", t.run("(check n t (weak (" + all + forty + ") (same x)))"), 7);
        Tester.same("400 in a PROOF, OUT", t.out().startsWith("((equal x x) (cons "), true);
        t.unworked("(check n t (weak (" + all + Texts.sized(41, "z") + ") (same x)))", 4, 2);
    }

    private static void sizesOfTwo() {
        Tester.sentence(WHERE, THIRTY);
        Tester t = new Tester();
        t.done("(defun q (x y) (if (consp y) (q x (cdr y)) t) (height y))").done("(defthm b (q x y) (induct (q x y)))");
        t.done("(off b)");
        // (not (q S y)) with S of 97 has 100, and stays, behind 2 + 97 + 1 + 2 STEPS.
        StringBuilder three = new StringBuilder();
        for (String v : new String[] {"u", "v", "w"}) {
            three.append(" (use b (x ").append(Texts.sized(97, v)).append("))");
        }
        int given = 3 * 102;
        t.done("(defun w (x) (cons x x))");
        // (w S) comes out with twice the SIZE of S and one. NOT r and 98 are 400 with those, NOT r and 99 not.
        String ninetyEight = "(height (w " + Texts.sized(48, "z") + "))";
        String ninetyNine = "(w " + Texts.sized(49, "z") + ")";
        int of98 = 2 + 48 + 97;
        int of99 = 1 + 49 + 99;
        t.house.fuel(given + 2 + of98 + 1);
        t.unworked("(prove (if r " + ninetyEight + " z)" + three + ")", 1, given + 2 + of98 + 1);
        t.house.fuel(1000);
        t.unworked("(prove (if r " + ninetyNine + " z)" + three + ")", 4, given + 2 + of99 + 1);
        // r and 99, in the second one of the two; r and 100.
        t.house.fuel(given + 2 + 1 + of99);
        t.unworked("(prove (if r z " + ninetyNine + ")" + three + ")", 1, given + 2 + 1 + of99);
        t.house.fuel(1000);
        t.unworked("(prove (if r z (height " + ninetyNine + "))" + three + ")", 4, given + 2 + 1 + 1 + of99);
    }

    private static void sizesBehindARound() {
        Tester.sentence(WHERE, THIRTY);
        Tester t = new Tester();
        t.done("(defun q (x y) (if (consp y) (q x (cdr y)) t) (height y))").done("(defthm b (q x y) (induct (q x y)))");
        t.done("(off b)");
        t.done("(defun w (x) (cons x x))");
        // (not (q (w S) y)) with S of 48 has 52, and comes out with 1 + 1 + 97 + 1 = 100.
        StringBuilder three = new StringBuilder();
        for (String v : new String[] {"u", "v", "p"}) {
            three.append(" (use b (x (w ").append(Texts.sized(48, v)).append(")))");
        }
        int grown = 2 + 1 + 48 + 97 + 1 + 2;
        t.house.fuel(3 * grown + 100);
        // 400 together is taken up again, so it is OUT OF FUEL; 401 is TOO BIG, behind the ROUND.
        t.unworked("(prove " + Texts.sized(100, "z") + three + ")", 1, 3 * grown + 100);
        t.house.fuel(1000);
        t.unworked("(prove " + Texts.sized(101, "z") + three + ")", 4, 3 * grown + 101);
        // A literal that would be PROVED, or goes, behind those that grew: the clause isn't made with it.
        t.due("(prove (equal " + Texts.sized(51, "z") + " " + Texts.sized(51, "z") + ")" + three + ")", 0, "", 3 * grown + 103);
        Tester.same("recheck", t.house.recheck(), true);
        t.house.fuel(3 * grown + 103);
        t.unworked("(prove (car (cons nil " + Texts.sized(100, "z") + "))" + three + ")", 1, 3 * grown + 103);
    }

    private static String manyCalls(int calls) {
        StringBuilder body = new StringBuilder("0");
        for (int k = 0; k < calls; k++) {
            body.insert(0, "(cons (f) ").append(')');
        }
        return "(defun f () " + body + " 0)";
    }

    private static void twentyLeft() {
        Tester.sentence(WHERE, "the first one is taken up; what comes of it stands in its place; until there is none, "
                + "or the 20th one is LEFT (those that were not taken up are not LEFT then)");
        Tester t = new Tester();
        // Each call's clause is (< 0 0): three STEPS, and it has no literals then.
        for (int calls : new int[] {1, 19, 20, 21, 30}) {
            int left = Math.min(20, calls);
            t.due(manyCalls(calls), 5, "(" + "nil ".repeat(left).trim() + ")", left * 3);
            Tester.same("LEFT of " + calls, t.house.count(4), left);
        }
        // Nothing comes behind the 20th: no STEP, for which there would be no FUEL.
        t.house.fuel(60);
        t.due(manyCalls(21), 5, "(" + "nil ".repeat(20).trim() + ")", 60);
        t.house.fuel(59);
        t.unworked(manyCalls(20), 1, 59);
        Tester.same("LEFT with a FAULT", t.house.count(4), 0);
        t.house.fuel(1000);
        // One clause, then two for each call: the 20th is the first of two, and the second isn't LEFT.
        for (int calls = 9; calls <= 11; calls++) {
            StringBuilder body = new StringBuilder("0");
            for (int k = 0; k < calls; k++) {
                body.insert(0, "(cons (f r s p v) ").append(')');
            }
            String two = " (v (not r) s) (v r p)".repeat(calls == 9 ? 9 : 10);
            String told = "(((not v))" + (calls == 9 ? two : two.substring(0, two.length() - 8)) + ")";
            t.due("(defun f (r s p v) (if v (f r s p v) (if (if r s p) 0 " + body + ")) 0)", 5, told,
                    7 + (calls == 9 ? 9 * 25 : 10 * 25 - 9));
            Tester.same("LEFT of " + calls, t.house.count(4), calls == 9 ? 19 : 20);
        }
    }

    private static void provedAtOnce() {
        Tester.sentence(WHERE, "if it has a constant that isn't nil, or X and NOT X both: it is PROVED");
        Tester t = prepared();
        t.due("(prove t)", 0, "", 0).due("(prove 0)", 0, "", 0).due("(prove '(nil))", 0, "", 0);
        t.due("(prove nil)", 6, "(nil)", 1);
        t.due("(prove 5 (use a))", 0, "", 0).due("(prove nil (use b))", 6, "(((not (q x))))");
        t.due("(prove (if x t t) (use a))", 0, "", 0).due("(prove (not (if x t t)) (use a))", 6, "(nil)", 5);
        t.due("(prove (q z) (use b (x z)))", 0, "", 0).due("(prove (q y) (use b (x z)))", 6, "(((not (q z)) (q y)))");
        // Of a literal with a SIZE of 120, NOT isn't made for this question.
        t.due("(prove " + Texts.sized(120, "z") + ")", 6, "((" + Texts.sized(120, "z") + "))", 120);
        Tester.same("recheck", t.run("(prove 5)") == 0 && t.house.recheck(), true);
    }

    /** NOT each (equal x1 x2), (equal x2 x3), .. (equal xn 5), behind (natp x1): each ROUND tells one more to be 5. */
    private static String chained(int length) {
        String[] terms = {"a", "b", "c", "d", "e", "(car f)", "(cdr f)", "(height f)", "5"};
        StringBuilder body = new StringBuilder("(g a b c d e f)");
        for (int k = length - 1; k >= 0; k--) {
            body.insert(0, "(if (equal " + terms[k] + " " + (k == length - 1 ? "5" : terms[k + 1]) + ") ").append(" 0)");
        }
        return "(defun g (a b c d e f) (if (natp a) 0 " + body + ") 0)";
    }

    private static void sixRounds() {
        Tester.sentence(WHERE, "Else, if six ROUNDS were made of it: it is LEFT");
        Tester t = new Tester();
        for (int length = 1; length <= 6; length++) {
            // As many ROUNDS as the chain is long.
            Tester.same("a chain of " + length, t.run(chained(length)), 0);
            Tester.same("recheck of " + length, t.house.recheck(), true);
            t.done("(undo)");
        }
        String known = "(not (equal b 5)) (not (equal c 5)) (not (equal d 5)) (not (equal e 5)) (not (equal (car f) 5)) (not (equal (cdr f) 5))";
        t.due(chained(7), 5, "(((natp a) (not (equal a 5)) " + known + "))");
        Tester.same("recheck of 7", t.house.recheck(), false);
        t.due(chained(8), 5, "(((natp a) (not (equal a b)) " + known + " (not (equal (height f) 5))))");
    }

    private static void roundsOfTwo() {
        Tester.sentence(WHERE, "These have as many ROUNDS made of them as the clause, with this one; its rest is not made");
        Tester t = new Tester();
        // Six ROUNDS are six that become two: the seventh if stays.
        t.due("(prove (if a (if b (if c (if d (if e f t) t) t) t) t))", 6, "(((not a) (not b) (not c) (not d) (not e) f))");
        t.due("(prove (if a (if b (if c (if d (if e (if f g t) t) t) t) t) t))", 6,
                "(((not a) (not b) (not c) (not d) (not e) (not f) g))");
        t.due("(prove (if a (if b (if c (if d (if e (if f (if g h t) t) t) t) t) t) t))", 6,
                "(((not a) (not b) (not c) (not d) (not e) (not f) (if g h t)))");
        // (if x y z), w and (< 0 0): the ROUND ends with the first. Then not x, y, w, <; and once more without it.
        t.due("(defun f (x y z w) (if (if x y z) 0 (if w 0 (f x y z w))) 0)", 5, "(((not x) y w) (x z w))",
                4 + 2 + 1 + 1 + 3 + 4 + 1 + 1 + 1 + 3 + 3);
    }

    private static void contexts() {
        Tester.sentence(WHERE, "each literal, from the left, is REWRITTEN for its TRUTH in the CONTEXT of NOT each other "
                + "(those ahead as they are by then, those behind as they were), from the left");
        Tester t = new Tester();
        // b is 5, so a is, in the first ROUND, since each one behind knows those ahead as they are by then.
        t.due("(defun g (a b c) (if (equal c 5) (if (equal b c) (if (equal a b) (if (natp a) 0 (g a b c)) 0) 0) 0) 0)", 0, "",
                3 * 4 + 2);
        // The other way round one more is known in each ROUND; the < goes in the first one. Then a is 5, and (natp a) t.
        t.due("(defun h (a b c) (if (natp a) 0 (if (equal a b) (if (equal b c) (if (equal c 5) (h a b c) 0) 0) 0)) 0)", 0, "",
                (2 + 3 * 4 + 3) + (2 + 3 * 4) + 2);
    }

    private static void comesOut() {
        Tester.sentence(WHERE, "If t comes out, the clause is PROVED. nil: the literal goes");
        Tester t = prepared();
        // Behind a literal that comes out as t no other one is REWRITTEN.
        t.due("(defun f (x y) (if (equal x x) 0 (if (car y) 0 (f x y))) 0)", 0, "", 3).done("(undo)");
        t.due("(defun f (x y) (if (car y) 0 (if (equal x x) 0 (f x y))) 0)", 0, "", 2 + 3);
        // A constant that isn't nil is t for the TRUTH.
        t.due("(prove (car '(5)))", 0, "", 2).due("(prove (car '(nil)))", 6, "(nil)", 2);
        t.due("(prove (equal (cons 1 x) 5) (use b))", 6, "(((not (q x))))", 5 + 5 + 5);
    }

    private static void becomesTwo() {
        Tester.sentence(WHERE, "(if A B C): the clause becomes two: with NOT A and B, in this order, at its place, "
                + "and with A and C. "
                + "(not (if A B C)): two: with NOT A and NOT B, and with A and NOT C");
        Tester t = new Tester();
        t.due("(prove (if x y z))", 6, "(((not x) y) (x z))", 4 + 3 + 2);
        t.due("(prove (not (if x y z)))", 6, "(((not x) (not y)) (x (not z)))", 5 + 4 + 3);
        t.due("(prove (not (if x (not y) z)))", 6, "(((not x) y) (x (not z)))");
        // At its place, between those ahead and those behind.
        t.due("(defun f (x y z v w) (if v 0 (if (if x y z) 0 (if w 0 (f x y z v w)))) 0)", 5, "((v (not x) y w) (v x z w))");
        // (not (car (cons x y))) comes out as (not x), which is there already, ahead or behind.
        t.due("(defun f (x y p q) (if x (if (if p (not (car (cons x y))) q) 0 (f x y p q)) 0) 0)", 5,
                "(((not x) (not p)) ((not x) p q))");
        t.due("(defun f (x y p q) (if (if p (not (car (cons x y))) q) 0 (if x (f x y p q) 0)) 0)", 5,
                "(((not p) (not x)) (p q (not x)))");
    }

    private static void standsInstead() {
        Tester.sentence(WHERE, "Else what came out stands instead of it (and one behind that is the same goes at once)");
        Tester t = new Tester();
        // (not (car (cons x y))) comes out as (not x), so the (not x) behind is not REWRITTEN; then once more.
        t.due("(defun f (x y z) (if (car (cons x y)) (if z 0 (if x (f x y z) 0)) 0) 0)", 5, "(((not x) z))", 5 + 1 + 3 + 2 + 1);
        t.due("(defun f (x y) (if (car (cons x y)) (if x (f x y) 0) 0) 0)", 5, "(((not x)))", 5 + 3 + 2);
        // One ahead is the same: the later one goes.
        t.due("(defun f (x y z) (if x (if z 0 (if (car (cons x y)) (f x y z) 0)) 0) 0)", 5, "(((not x) z))",
                2 + 1 + 5 + 3 + 2 + 1);
    }

    private static void withoutLiterals() {
        Tester.sentence(WHERE, "A clause without literals is LEFT, told as nil");
        Tester t = prepared();
        t.due("(prove nil)", 6, "(nil)", 1).due("(prove (equal 1 2))", 6, "(nil)", 3);
        Tester.same("it is LEFT", t.house.count(4), 1);
        t.due("(prove nil (use a) (use a (x y)))", 6, "(nil)", 5 + 5 + 1);
        t.due("(prove (if x nil nil))", 6, "(nil)", 4).due("(prove (not t))", 6, "(nil)", 2);
    }

    private static void changes() {
        Tester.sentence(WHERE, "Behind a ROUND that changed something (that a literal went is a change, also of one "
                + "that was nil) "
                + "the clause is taken up again; behind another one it is LEFT");
        Tester t = prepared();
        t.done("(defthm true t)");
        t.due("(prove x)", 6, "((x))", 1).due("(prove (car (cons x y)))", 6, "((x))", 4 + 1);
        t.due("(prove x (use true))", 6, "((x))", 1 + 1 + 1).due("(prove nil (use true))", 6, "(nil)", 1);
        t.due("(prove (q x) (use b (x y)))", 6, "(((not (q y)) (q x)))", 5 + 4);
    }
}
