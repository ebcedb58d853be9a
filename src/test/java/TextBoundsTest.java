/** Terms 1, OBJECTS AND TEXTS: of each sentence that names a limit the last case that is allowed and the first that isn't. */
public final class TextBoundsTest {
    private static final String WHERE = "Terms 1";
    private static final String MARKS = "()'. \n;";
    private static final String ATOMS = "abcdefghijklmnopqrstuvwxyz0123456789+-*/<>=?!_";
    private static final String GREATEST = "4611686018427387903";

    public static void main(String[] args) {
        naturals();
        lengthOfTexts();
        characters();
        comments();
        longWords();
        symbols();
        lists();
        dots();
        blanksBetween();
        oneObject();
        places();
        openOnes();
        wordCount();
        leastNumber();
        firstFromTheLeft();
        toldNaturals();
        toldQuotes();
        toldPairs();
        longOut();
        Tester.finish();
    }

    private static void quoted(String text, String told) {
        new Tester().due("(eval '" + text + ")", 0, told, 0);
    }

    private static void naturals() {
        Tester.sentence(WHERE, "An OBJECT is a NATURAL (0 .. 2^62 - 1)");
        quoted("0", "0");
        quoted("1", "1");
        quoted("4611686018427387902", "4611686018427387902");
        quoted(GREATEST, GREATEST);
        Tester.sentence(WHERE, "2 a SYMBOL of more than 11, a NATURAL above 2^62 - 1");
        // The first one above, the first one that ends in 9, and those at which 63 and 64 bits wrap around.
        for (String above : new String[] {"4611686018427387904", "4611686018427387909", "4611686018427387910",
            "9223372036854775807", "9223372036854775808", "13835058055282163712", "18446744073709551615",
            "18446744073709551616", "18446744073709551617", "36893488147419103232", "1" + "0".repeat(2000)}) {
            new Tester().unread("(eval " + above + ")", 2, 6);
        }
        quoted("0".repeat(2900) + GREATEST, GREATEST);
        new Tester().unread("(eval " + "0".repeat(2900) + "4611686018427387904)", 2, 6);
    }

    private static void lengthOfTexts() {
        Tester.sentence(WHERE, "A TEXT has at most 3000 characters");
        String eight = "(eval '" + "8".repeat(18) + ")";
        Tester t = new Tester();
        t.due(" ".repeat(3000 - eight.length()) + eight, 0, "8".repeat(18));
        t.due(eight + "\n".repeat(3000 - eight.length()), 0, "8".repeat(18));
        t.feed(" ".repeat(3001 - eight.length())).feed(eight.substring(0, eight.length() - 1));
        t.house.feed(0x29000000, 0, 0, 0, 0);
        Tester.same("the 3001st", t.house.end(1), -1);
        Tester.same("the TEXT without it", t.house.run(), 1);
        Tester.same("ends too early", t.house.fault(0), 3);
        Tester.same("at its length", t.house.fault(1), 3000);
    }

    private static void characters() {
        Tester.sentence(WHERE, "32 .. 126 or 10. BLANKS are 32, 10 .. ATOMS, of letters a .. z, digits and + - * / < "
                + "> = ? ! _ .. "
                + "1 a character with which no word begins (also 32 .. 126 that are none of those above)");
        Tester t = new Tester();
        for (char c = 0; c < 256; c++) {
            boolean mark = MARKS.indexOf(c) >= 0;
            if (ATOMS.indexOf(c) >= 0) {
                t.due("(eval '" + c + ")", 0, "" + c);
                t.due("" + c, 2, "");
            } else if (!mark) {
                t.unread("" + c, 1, 0);
                t.unread("(eval a" + c + ")", 1, 7);
            }
        }
        for (char c : new char[] {9, 11, 13, 31, 127, 128, 255, 'A', 'Z', ':', '@', '[', '`', '{', '"', '#', ','}) {
            t.unread("(eval 1) " + c, 1, 9);
        }
        t.due("(eval\n1)", 0, "1").due("(eval 1)", 0, "1");
    }

    private static void comments() {
        Tester.sentence(WHERE, "a ; with all up to the line's end (or the text's)");
        Tester t = new Tester();
        for (char c = 0; c < 256; c++) {
            if (c == '\n') {
                t.unread("(eval 1) ;" + c + ")", 3, 11);
            } else {
                t.due("(eval ;" + c + ")\n1);" + c, 0, "1");
            }
        }
        t.due(";\n(eval 1);", 0, "1");
        t.unread(";", 3, 1);
        t.unread("(eval 1 ;)", 3, 10);
        t.due("(eval 'a;b\n)", 0, "a");
    }

    private static void longWords() {
        Tester.sentence(WHERE, "WORDS, each as long as can be");
        quoted("(12 1a a1 1 2)", "(12 1a a1 1 2)");
        quoted("(a(b)c'd.e)", "(a (b) c 'd . e)");
        quoted("(1.2)", "(1 . 2)");
        quoted("(a+b - +)", "(a+b - +)");
        Tester.sentence(WHERE, "( ) ' . (one character each)");
        quoted("(())", "(nil)");
        quoted("''()", "''nil");
        new Tester().unread("(eval '(a ..b))", 3, 11);
    }

    private static void symbols() {
        Tester.sentence(WHERE, "one of digits alone is a NATURAL, another one a SYMBOL of at most 11 characters");
        quoted("abcdefghijk", "abcdefghijk");
        quoted("___________", "___________");
        quoted("1234567890a", "1234567890a");
        quoted("12345678901", "12345678901");
        quoted("123456789012", "123456789012");
        for (String twelve : new String[] {"abcdefghijkl", "____________", "12345678901a", "a12345678901", "12345678901-"}) {
            new Tester().unread("(eval '" + twelve + ")", 2, 7);
        }
        new Tester().unread("(eval '" + "a".repeat(2000) + ")", 2, 7);
        Tester t = new Tester();
        // All eleven characters tell one symbol from another.
        t.due("(eval (equal 'abcdefghijk 'abcdefghijj))", 0, "nil").due("(eval (equal '_bcdefghijk '!bcdefghijk))", 0, "nil");
        t.due("(eval (equal '___________ '__________))", 0, "nil").due("(eval (equal 'aaaaaaaaaaa 'aaaaaaaaaaa))", 0, "t");
    }

    private static void lists() {
        Tester.sentence(WHERE, "( and objects, perhaps none, and ) : their list");
        quoted("()", "nil");
        quoted("( )", "nil");
        quoted("(a)", "(a)");
        quoted("(() ())", "(nil nil)");
        Tester.sentence(WHERE, "' and an object X: the list (quote X)");
        quoted("'()", "'nil");
        new Tester().unread("(eval ')", 3, 7);
        new Tester().unread("(eval '", 3, 7);
        new Tester().unread("(eval '.)", 3, 7);
    }

    private static void dots() {
        Tester.sentence(WHERE, "( and objects, at least one, . one object and ) : pairs, with that one instead of nil "
                + "at the end");
        quoted("(a . b)", "(a . b)");
        quoted("(a b c . d)", "(a b c . d)");
        quoted("(a . 'b)", "(a quote b)");
        quoted("(a . (b))", "(a b)");
        Tester t = new Tester();
        t.unread("(eval '( . b))", 3, 9);
        t.unread("(eval '(a . ))", 3, 12);
        t.unread("(eval '(a . b c))", 3, 14);
        t.unread("(eval '(a . b 'c))", 3, 14);
        t.unread("(eval '(a . b (c)))", 3, 14);
        t.unread("(eval '(a . b . c))", 3, 14);
        t.unread("(eval '(a . . b))", 3, 12);
        t.unread("(eval '(a . ' . b))", 3, 14);
        t.unread("(eval . )", 3, 8);
        t.unread(". (eval 1)", 3, 0);
        t.due("(eval . (1))", 0, "1");
    }

    private static void blanksBetween() {
        Tester.sentence(WHERE, "BLANKS may stand between any two words");
        quoted(" a", "a");
        quoted(";it\n\n (\n a ; b\n . ;c)\n b\n)", "(a . b)");
        quoted("( ' ;\n ' x)", "(''x)");
        Tester.sentence(WHERE, "READING: the text must be one object, BLANKS ahead and behind");
        new Tester().due(" \n;a\n (eval 1) \n;b", 0, "1");
    }

    private static void oneObject() {
        Tester.sentence(WHERE, "READING: the text must be one object");
        Tester t = new Tester();
        t.unread("", 3, 0).unread(" ", 3, 1).unread(";a\n", 3, 3);
        t.due("a", 2, "").due("7", 2, "").due("'a", 2, "").due("()", 2, "");
        t.unread("a b", 3, 2).unread("() ()", 3, 3).unread("'a 'b", 3, 3).unread("() )", 3, 3).unread("() .", 3, 3);
    }

    private static void places() {
        Tester.sentence(WHERE, "with the place where its word begins (the text's length for its end)");
        Tester t = new Tester();
        t.unread("(", 3, 1).unread("( ", 3, 2).unread("(eval 1", 3, 7).unread("(eval 1 ;)", 3, 10);
        t.unread("(eval \n abcdefghijkl)", 2, 8).unread("(eval 1))", 3, 8).unread(" )", 3, 1);
        t.unread("(" + " ".repeat(2999), 3, 3000);
        t.unread(" ".repeat(2999) + ")", 3, 2999);
        t.unread(" ".repeat(3000), 3, 3000);
        Tester.sentence(WHERE, "3 a word, or the end, that can't stand there");
        t.unread("(a . b", 3, 6).unread("(a .", 3, 4).unread("'", 3, 1).unread(")", 3, 0);
    }

    private static void openOnes() {
        Tester.sentence(WHERE, "4 a ( or ' that is in 40 of these that are open (a ' until its object has ended)");
        Tester t = new Tester();
        t.unread("(".repeat(40), 3, 40).unread("(".repeat(41), 4, 40).unread("(".repeat(40) + "'", 4, 40);
        t.unread("'".repeat(40), 3, 40).unread("'".repeat(41), 4, 40).unread("'".repeat(40) + "(", 4, 40);
        t.unread("('".repeat(20) + ")", 3, 40).unread("('".repeat(20) + "(", 4, 40).unread("('".repeat(20) + "'", 4, 40);
        t.due("(".repeat(40) + ")".repeat(40), 2, "").due("'".repeat(40) + "a", 2, "");
        t.due("(eval " + "'".repeat(39) + "a)", 0, "'".repeat(38) + "a");
        t.due("(eval '" + "(".repeat(38) + ")".repeat(38) + ")", 0, "(".repeat(37) + "nil" + ")".repeat(37));
        // Behind 39 that are open, one more may come again and again, and one within it never.
        String deep = "(eval '" + "(".repeat(37);
        t.due(deep + "'a ".repeat(20) + "()".repeat(20) + ")".repeat(38), 0,
                "(".repeat(37) + "'a ".repeat(20) + "nil ".repeat(20).trim() + ")".repeat(37));
        t.unread(deep + "'a '() ", 4, deep.length() + 4);
        t.unread(deep + "'a () (')", 4, deep.length() + 7);
        t.unread(deep + "'a '(a) ", 4, deep.length() + 4);
        // The object of a ' has ended with its last word: with a ) it is not open any more.
        t.due("(eval '" + "(".repeat(36) + "'() (())" + ")".repeat(37), 0, "(".repeat(36) + "'nil (nil)" + ")".repeat(36));
    }

    private static void wordCount() {
        Tester.sentence(WHERE, "5 the 1001st word");
        Tester t = new Tester();
        t.due("(" + "a ".repeat(998) + ")", 2, "");
        t.unread("(" + "a ".repeat(999) + ")", 5, 1999);
        t.unread("(" + "a ".repeat(1000), 5, 1999);
        t.unread("(" + "a ".repeat(999), 3, 1999);
        t.due("(" + "a ".repeat(998) + ") ;a a\n", 2, "");
        t.unread("(" + "'a ".repeat(499) + "a)", 5, 1 + 3 * 499 + 1);
        t.due("(" + "'a ".repeat(499) + ")", 2, "");
        t.due("(eval '(" + "a ".repeat(992) + ". b))", 0, ("(" + "a ".repeat(992) + ". b)"));
        t.unread("(eval '(" + "a ".repeat(993) + ". b))", 5, 8 + 2 * 993 + 4);
    }

    private static void leastNumber() {
        Tester.sentence(WHERE, "At one place the least number");
        Tester t = new Tester();
        String full = "(" + "a ".repeat(999);
        String tailed = "(".repeat(40) + "a . b ";
        t.unread("() A", 1, 3).unread(tailed + "A", 1, tailed.length()).unread(full + "A", 1, 1999);
        t.unread("() abcdefghijkl", 2, 3).unread("() 4611686018427387904", 2, 3);
        t.unread(full + "abcdefghijkl", 2, 1999).unread(full + "4611686018427387904", 2, 1999);
        t.unread(tailed + "(", 3, tailed.length()).unread(tailed + "'", 3, tailed.length());
        // A word that can't stand there, and would be the 1001st.
        String ended = "(" + "a ".repeat(996) + ". a)";
        t.unread(ended + ")", 3, ended.length()).unread(ended + " a", 3, ended.length() + 1);
        String quote = "(" + "a ".repeat(998) + "'";
        t.unread(quote + ")", 3, quote.length()).unread(quote + ".", 3, quote.length()).unread(quote + "a", 5, quote.length());
        // A ( in forty, and the 1001st word.
        String wide = "(" + "a ".repeat(960) + "(".repeat(39);
        t.unread(wide + "(", 4, wide.length()).unread(wide + "'", 4, wide.length()).unread(wide + "a", 5, wide.length());
        t.unread(wide + ")", 5, wide.length()).unread(wide + ".", 3, wide.length());
    }

    private static void firstFromTheLeft() {
        Tester.sentence(WHERE, "FAULTS, the first from the left");
        Tester t = new Tester();
        t.unread("(a . b c A", 3, 7).unread("() abcdefghijkl A", 2, 3).unread("() () abcdefghijkl", 3, 3);
        t.unread("(".repeat(41) + ")".repeat(50), 4, 40).unread("(".repeat(41) + "A", 4, 40);
        t.unread("(" + "a ".repeat(1000) + "A", 5, 1999);
        t.unread("(abcdefghijkl", 2, 1);
    }

    private static void toldNaturals() {
        Tester.sentence(WHERE, "TOLD: NATURALS without zeros in front");
        quoted("00", "0");
        quoted("0010", "10");
        quoted("(00 01 0a)", "(0 1 0a)");
        new Tester().due("(simplify (cons x 007))", 0, "(cons x 7)");
    }

    private static void toldQuotes() {
        Tester.sentence(WHERE, "the list (quote X) as ' and X");
        quoted("(quote)", "(quote)");
        quoted("(quote a)", "'a");
        quoted("(quote nil)", "'nil");
        quoted("(quote (quote))", "'(quote)");
        quoted("(quote a b)", "(quote a b)");
        quoted("(quote . a)", "(quote . a)");
        quoted("(quote a . b)", "(quote a . b)");
        quoted("(a quote b)", "(a quote b)");
        quoted("((quote b))", "('b)");
        quoted("((quote b) quote c)", "('b quote c)");
    }

    private static void toldPairs() {
        Tester.sentence(WHERE, "other pairs as lists, with . and the last one if that isn't nil; one blank between "
                + "(also around .)");
        quoted("(a . nil)", "(a)");
        quoted("(a . t)", "(a . t)");
        quoted("(a . 0)", "(a . 0)");
        quoted("(nil . nil)", "(nil)");
        quoted("((a.b).(c.d))", "((a . b) c . d)");
        quoted("(  a   b\n.c )", "(a b . c)");
    }

    private static void longOut() {
        Tester.sentence(WHERE, "OUT has at most 2000 characters; what would come behind is left out");
        Tester t = new Tester();
        // ( and 166 times eleven and a blank: 1993 characters.
        String start = "(" + "abcdefghijk ".repeat(166);
        t.due("(eval '" + start + "lmnopq))", 0, start + "lmnopq)");
        Tester.same("2000 characters", t.house.size(), 2000);
        Tester.same("the last one", t.house.letter(1999), (int) ')');
        Tester.same("none behind", t.house.letter(2000), -1);
        t.due("(eval '" + start + "lmnopqr))", 0, start + "lmnopqr");
        Tester.same("2000 of 2001", t.house.size(), 2000);
        t.due("(eval '" + start + "lmnop))", 0, start + "lmnop)");
        Tester.same("1999 characters", t.house.size(), 1999);
        Tester.same("no 2000th", t.house.letter(1999), -1);
        // Left out in the midst of a symbol, of a number, behind ', behind a blank, behind a dot.
        t.due("(eval '" + start + "lmnopqrstuv))", 0, start + "lmnopqr");
        t.due("(eval '" + start + "123456789012))", 0, start + "1234567");
        t.due("(eval '" + start + "lmnopq 'a))", 0, start + "lmnopq ");
        t.due("(eval '" + start + "lmnop 'a))", 0, start + "lmnop '");
        t.due("(eval '" + start + "lmnop (a)))", 0, start + "lmnop (");
        t.due("(eval '" + start + "lmno . a))", 0, start + "lmno . ");
        t.due("(eval '" + start + "lmnop . a))", 0, start + "lmnop .");
    }
}
