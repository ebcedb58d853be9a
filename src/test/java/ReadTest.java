/** Promises 5 and 6, OBJECTS AND TEXTS: what is read, how it is told, and each FAULT of READING. */
public final class ReadTest {
    public static void main(String[] args) {
        told();
        blanks();
        badCharacters();
        badAtoms();
        badPlaces();
        openOnes();
        words();
        firstFault();
        notCommands();
        Tester.finish();
    }

    private static void quoted(String text, String told) {
        new Tester().due("(eval '" + text + ")", 0, told, 0);
    }

    private static void told() {
        quoted("007", "7");
        quoted("0", "0");
        quoted("4611686018427387903", "4611686018427387903");
        quoted("00000000000000000000000000004611686018427387903", "4611686018427387903");
        quoted("abcdefghijk", "abcdefghijk");
        quoted("_-+*/<>=?!9", "_-+*/<>=?!9");
        quoted("1a", "1a");
        quoted("-1", "-1");
        quoted("()", "nil");
        quoted("nil", "nil");
        quoted("(a)", "(a)");
        quoted("(a . b)", "(a . b)");
        quoted("(a b . c)", "(a b . c)");
        quoted("(a . (b . (c . nil)))", "(a b c)");
        quoted("(a . ())", "(a)");
        quoted("((a) (b . 1) ())", "((a) (b . 1) nil)");
        quoted("'a", "'a");
        quoted("''a", "''a");
        quoted("(quote a)", "'a");
        quoted("(quote . a)", "(quote . a)");
        quoted("(quote)", "(quote)");
        quoted("(quote a b)", "(quote a b)");
        quoted("(quote a . b)", "(quote a . b)");
        quoted("(a quote b)", "(a quote b)");
        quoted("(a . 'b)", "(a quote b)");
        quoted("('a 'b)", "('a 'b)");
        quoted("(a.b)", "(a . b)");
        quoted("(a'b)", "(a 'b)");
        quoted("((a)b)", "((a) b)");
    }

    private static void blanks() {
        Tester t = new Tester();
        t.due(" \n ( eval\n' ;it; )\n ( a\n.;\n b ) );the end", 0, "(a . b)");
        t.due(";a line\n(eval 1);\n;", 0, "1");
        t.due("(eval ;A\u00ff\u0001~\n 2)", 0, "2");
        t.unread(";(eval 1)", 3, 9);
        t.unread("", 3, 0);
        t.unread("  \n", 3, 3);
    }

    private static void badCharacters() {
        Tester t = new Tester();
        for (char c : new char[] {'A', 'Z', '"', '#', '$', '%', '&', ',', ':', '@', '[', '\\', ']', '^', '`', '{', '|',
            '}', '~', '\t', '\r', 0, 127, 128, 255}) {
            t.unread("(eval " + c + ")", 1, 6);
            t.unread("(ev" + c + "al 1)", 1, 3);
            t.unread("(eval 1)" + c, 1, 8);
        }
    }

    private static void badAtoms() {
        Tester t = new Tester();
        t.unread("(eval 4611686018427387904)", 2, 6);
        t.unread("(eval  99999999999999999999999)", 2, 7);
        t.unread("(eval 'abcdefghijkl)", 2, 7);
        t.unread("(eval '12345678901a)", 2, 7);
        t.due("(eval 123456789012)", 0, "123456789012");
        t.unread("abcdefghijkl", 2, 0);
    }

    private static void badPlaces() {
        Tester t = new Tester();
        t.unread(")", 3, 0);
        t.unread(".", 3, 0);
        t.unread("(", 3, 1);
        t.unread("'", 3, 1);
        t.unread("')", 3, 1);
        t.unread("'.", 3, 1);
        t.unread("(')", 3, 2);
        t.unread("(.", 3, 1);
        t.unread("( . a)", 3, 2);
        t.unread("(a .)", 3, 4);
        t.unread("(a . . b)", 3, 5);
        t.unread("(a . b c)", 3, 7);
        t.unread("(a . b . c)", 3, 7);
        t.unread("(a . b 'c)", 3, 7);
        t.unread("(a . b (c))", 3, 7);
        t.unread("(a . b", 3, 6);
        t.unread("(a  ", 3, 4);
        t.unread("a b", 3, 2);
        t.unread("() ()", 3, 3);
        t.unread("() '", 3, 3);
        t.unread("())", 3, 2);
        t.unread("(a (b)", 3, 6);
    }

    private static void openOnes() {
        Tester t = new Tester();
        t.due("(eval '" + "(".repeat(38) + ")".repeat(38) + ")", 0, "(".repeat(37) + "nil" + ")".repeat(37));
        t.unread("(eval '" + "(".repeat(39) + ")".repeat(39) + ")", 4, 7 + 38);
        t.due("(eval " + "'".repeat(39) + "a)", 0, "'".repeat(38) + "a");
        t.unread("(eval " + "'".repeat(40) + "a)", 4, 6 + 39);
        t.unread("(".repeat(41), 4, 40);
        t.unread("(".repeat(40), 3, 40);
        // A ' is open until its object has ended, no longer.
        t.due("(eval '(" + "'a ".repeat(50) + "))", 0, "(" + "'a ".repeat(49) + "'a)");
        t.due("(eval '(" + "'(b) ".repeat(50) + "))", 0, "(" + "'(b) ".repeat(49) + "'(b))");
    }

    private static void words() {
        Tester t = new Tester();
        // Four words ahead of the a's, two behind them.
        t.due("(eval '(" + "a ".repeat(994) + "))", 0, ("(" + "a ".repeat(993) + "a)").substring(0, 1989));
        t.unread("(eval '(" + "a ".repeat(995) + "))", 5, 8 + 2 * 995 + 1);
        t.unread("(eval '(" + "a ".repeat(996) + "))", 5, 8 + 2 * 996);
        t.unread("(" + "a ".repeat(1000) + ")", 5, 1 + 2 * 999);
        t.unread("(" + "a ".repeat(999) + ")", 5, 1 + 2 * 999);
        t.due("(" + "a ".repeat(998) + ")", 2, "");
        t.unread("(" + "''''".repeat(400), 4, 40);
    }

    private static void firstFault() {
        Tester t = new Tester();
        // At one place the least number: a word that is too long, and can't stand there either.
        t.unread("a abcdefghijkl", 2, 2);
        t.unread("a A", 1, 2);
        t.unread("a 4611686018427387904", 2, 2);
        // The 1001st word is a ) that can't stand there.
        t.unread("(a . b" + " ".repeat(3) + ") )", 3, 11);
        t.unread("(" + "a ".repeat(997) + ". a a", 3, 1 + 2 * 997 + 4);
        t.unread("() ABC ((", 1, 3);
        t.unread("() ( ABC", 3, 3);
    }

    private static void notCommands() {
        Tester t = new Tester();
        t.due("5", 2, "").due("nil", 2, "").due("()", 2, "").due("'a", 2, "").due("eval", 2, "");
        t.due("(eval)", 2, "").due("(eval 1 2)", 2, "").due("(eval . 1)", 2, "").due("(eval 1 . 2)", 2, "");
        t.due("((eval) 1)", 2, "").due("(evil 1)", 2, "").due("(5 1)", 2, "").due("(theorem a t)", 2, "");
        Tester.same("no FAULT of READING", t.house.fault(0), 0);
        Tester.same("no place", t.house.fault(1), -1);
        Tester.same("no FAULT OF WORK", t.house.fault(2), 0);
        Tester.same("fault 3", t.house.fault(3), -1);
        Tester.same("fault -1", t.house.fault(-1), -1);
        t.unread("(", 3, 1);
        t.due("(eval 1)", 0, "1");
        Tester.same("the FAULT is gone", t.house.fault(0), 0);
        Tester.same("its place is gone", t.house.fault(1), -1);
    }
}
