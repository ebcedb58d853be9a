import java.util.ArrayList;
import java.util.LinkedHashMap;
import java.util.List;
import java.util.Map;
import java.util.Random;

/** Runs of random commands on the class and on the Model: every answer of one is due from the other. */
public final class ModelTest {
    private static final int RUNS = 1500;
    private static final int LIMIT_RUNS = 400;
    private static final String[] VARIABLES = {"x", "y", "z", "n", "a", "b", "quote"};
    private static final String[] DEFINITIONS = {
        "(defun len (x) (if (consp x) (+ 1 (len (cdr x))) 0) (height x))",
        "(defun app (x y) (if (consp x) (cons (car x) (app (cdr x) y)) y) (height x))",
        "(defun f (x) (if (consp x) 1 2))",
        "(defun c (x) 5)",
        "(defun p (x y) 3)",
        "(defun q (x y z) t)",
        "(defun k () 7)",
        "(defun w (x) (cons x (cons x x)))",
        "(defun mem (a x) (if (consp x) (if (equal a (car x)) t (mem a (cdr x))) nil) (height x))",
        "(defun down (n) (if (< 0 n) (down (- n 1)) 0) n)",
        "(defun grow (n x) (if (< 0 n) (grow (- n 1) (cons x x)) x) n)",
        "(defun tree (x) (if (consp x) (+ (tree (car x)) (tree (cdr x))) 1) (height x))",
        "(defun flip (x) (if (not (consp x)) 0 (flip (cdr x))) (height x))",
        "(defun big (n) (if (< 0 n) (+ 4000000000000000000 (big (- n 1))) 0) n)",
        "(defun six (a b c d e f) (cons a (cons b (cons c (cons d (cons e f))))))",
        "(defun bad (x) (if x (cons (bad (car x)) (cons (bad (cdr x)) (bad x))) x) (height x))",
        "(defun pick (x y) (if x (if y x (not y)) (cons x y)))"};
    private static final String[] FORMULAS = {
        "(equal (app (app x y) z) (app x (app y z)))", "(equal (len (app x y)) (+ (len x) (len y)))", "(natp (len x))",
        "(equal (p x y) (p y x))", "(equal (p (cons x y) z) (p (cons y x) z))", "(equal (p x (p y z)) (p y (p x z)))",
        "(implies (consp x) (equal (p x y) 3))", "(implies (if (consp x) (natp y) nil) (q x y z))", "(c x)", "(q x y z)",
        "(equal (f (cons a b)) 1)", "(implies (natp x) (equal (f x) 2))", "(not (consp (c x)))", "(natp (c x))",
        "(equal (c x) (c (cons x 1)))", "(implies (consp x) (equal (c x) (c (cdr x))))", "(implies (q y x z) (q x y z))",
        "(equal (c x) (p (w x) (w x)))", "(implies (mem a x) (consp x))", "(implies (mem a x) (mem a (app x y)))",
        "(implies (not (consp x)) (equal (len x) 0))", "(equal (flip x) 0)", "(equal (down n) 0)", "(equal (k) 7)",
        "(implies x (implies y (pick x y)))", "(equal (+ x y) (+ y x))", "(equal (equal x y) (equal y x))"};

    private final Random random;
    private final Tester house = new Tester();
    private final Model model = new Model();
    private final LimitCommands limits;
    private int named = 0;

    private ModelTest(int seed, boolean nearLimits) {
        random = new Random(seed);
        limits = nearLimits ? new LimitCommands(random, model) : null;
    }

    public static void main(String[] args) {
        for (int seed = 0; seed < RUNS; seed++) {
            new ModelTest(seed, false).compare(seed);
        }
        for (int seed = 0; seed < LIMIT_RUNS; seed++) {
            new ModelTest(seed, true).compare(seed);
        }
        Tester.finish();
    }

    private void compare(int seed) {
        StringBuilder told = new StringBuilder("run " + seed);
        int length = 5 + random.nextInt(40);
        for (int k = 0; k < length; k++) {
            if (random.nextInt(25) == 0) {
                model.fuel = random.nextInt(3) == 0 ? 1000 : 1 + random.nextInt(200);
                house.house.fuel(model.fuel);
                told.append("; fuel ").append(model.fuel);
            }
            String command = limits != null ? limits.next() : random.nextInt(20) == 0 ? spoiled(command()) : command();
            command = command.substring(0, Math.min(3000, command.length()));
            told.append("; ").append(command);
            String due = answers(command);
            String got = state(house.run(command), house);
            Tester.same(told.toString(), got, due);
            if (!got.equals(due)) {
                return;
            }
            if (!model.entries.isEmpty() && random.nextInt(10) == 0) {
                int entry = random.nextInt(model.entries.size());
                model.tell(entry);
                Tester.same(told + "; tell " + entry, house.house.tell(entry), model.out.length());
                Tester.same(told + "; told " + entry, house.out(), model.out);
            }
        }
    }

    private String answers(String command) {
        int answer = model.run(command);
        int made = answer == 1 || answer == 2 || answer == 3 || answer == 8 ? 0 : model.steps;
        StringBuilder told = new StringBuilder();
        told.append(answer).append(' ').append(model.flaw).append(' ').append(model.place).append(' ')
                .append(model.workFault).append(' ').append(made).append(' ').append(model.proved);
        for (int what = 0; what <= 4; what++) {
            told.append(' ').append(model.count(what));
        }
        told.append(' ');
        model.entries.forEach(entry -> told.append(entry.charAt(0)));
        return told.append(' ').append(model.out).toString();
    }

    private static String state(int answer, Tester tester) {
        ProofHouse house = tester.house;
        StringBuilder told = new StringBuilder();
        told.append(answer).append(' ').append(house.fault(0)).append(' ').append(house.fault(1)).append(' ')
                .append(house.fault(2)).append(' ').append(house.steps()).append(' ').append(house.recheck());
        for (int what = 0; what <= 4; what++) {
            told.append(' ').append(house.count(what));
        }
        told.append(' ');
        for (int k = 0; house.taken(k) != 0; k++) {
            told.append(house.taken(k));
        }
        return told.append(' ').append(tester.out()).toString();
    }

    private String one(String... of) {
        return of[random.nextInt(of.length)];
    }

    private String command() {
        int sort = random.nextInt(100);
        named++;
        if (sort < 25 || named < 4) {
            return one(DEFINITIONS);
        }
        if (sort < 28) {
            return "(defun r" + random.nextInt(4) + " (x y) " + term(3, "x", "y") + ")";
        }
        if (sort < 48) {
            return "(defthm t" + named % 30 + " " + formula() + hints() + ")";
        }
        if (sort < 62) {
            return "(prove " + formula() + hints() + ")";
        }
        if (sort < 78) {
            return "(simplify " + (random.nextInt(4) == 0 ? sized(60 + random.nextInt(62)) : term(4, VARIABLES)) + ")";
        }
        if (sort < 84) {
            return "(eval " + term(4) + ")";
        }
        if (sort < 94) {
            String proof = proof(random.nextInt(4));
            String literal = model.firstLiteral(proof);
            return "(check t" + named % 30 + " " + (literal == null || random.nextInt(4) == 0 ? "x" : literal) + " " + proof + ")";
        }
        List<String> names = new ArrayList<>(model.theorems.keySet());
        String name = names.isEmpty() ? "no" : names.get(random.nextInt(names.size()));
        return sort < 96 ? "(undo)" : "(" + one("on", "off") + " " + name + ")";
    }

    private String formula() {
        int sort = random.nextInt(10);
        return sort < 5 ? one(FORMULAS) : sort < 9 ? term(1 + random.nextInt(4), VARIABLES) : sized(100 + random.nextInt(22));
    }

    private Map<String, Integer> functions() {
        Map<String, Integer> functions = new LinkedHashMap<>(Map.of("if", 3, "equal", 2, "cons", 2, "implies", 2, "+", 2,
                "-", 2, "<", 2, "not", 1));
        for (String name : List.of("consp", "car", "cdr", "natp", "symbolp", "height")) {
            functions.put(name, 1);
        }
        model.functions.forEach((name, function) -> functions.put(name, function.parameters.size()));
        return functions;
    }

    private String constant() {
        return one("0", "1", "2", "5", "nil", "t", "'a", "'nil", "'7", "'(1 2)", "'(a . b)", "''a", "'()", "'(quote)",
                "4611686018427387903", "4611686018427387902", "'((a) . 3)");
    }

    private String term(int depth, String... variables) {
        if (depth == 0 || random.nextInt(8) == 0) {
            return variables.length > 0 && random.nextInt(3) > 0 ? one(variables) : constant();
        }
        Map<String, Integer> functions = functions();
        List<String> names = new ArrayList<>(functions.keySet());
        names.sort(null);
        String name = random.nextInt(3) == 0 ? one("if", "equal", "not", "implies", "consp") : one(names.toArray(new String[0]));
        StringBuilder told = new StringBuilder("(" + (random.nextInt(200) == 0 ? "no" : name));
        for (int k = 0; k < functions.get(name); k++) {
            told.append(' ').append(term(depth - 1, variables));
        }
        return told.append(')').toString();
    }

    /** A term of so great a SIZE. */
    private String sized(int size) {
        if (size < 3) {
            return size == 2 ? "(" + one("car", "not", "consp") + " " + one("x", "y") + ")" : one("x", "y", "1");
        }
        int first = 1 + random.nextInt(size - 2);
        return "(" + one("cons", "equal", "+", "implies") + " " + sized(first) + " " + sized(size - 1 - first) + ")";
    }

    private String hints() {
        StringBuilder told = new StringBuilder();
        for (int k = random.nextInt(4); k > 1; k--) {
            told.append(' ').append(hint());
        }
        return told.toString();
    }

    private String hint() {
        List<String> names = new ArrayList<>(model.theorems.keySet());
        String theorem = names.isEmpty() || random.nextInt(15) == 0 ? one("no", "car") : names.get(random.nextInt(names.size()));
        switch (random.nextInt(3)) {
            case 0:
                return "(induct " + induction() + ")";
            case 1:
                StringBuilder told = new StringBuilder("(use " + theorem);
                if (model.theorems.containsKey(theorem)) {
                    for (String variable : Model.variables(model.theorems.get(theorem).formula)) {
                        told.append(random.nextInt(3) == 0 ? "" : " (" + variable + " " + term(random.nextInt(3), VARIABLES) + ")");
                    }
                }
                return told.append(random.nextInt(20) == 0 ? " (x 1))" : ")").toString();
            default:
                return "(off " + theorem + (random.nextInt(2) == 0 ? ")" : " " + one("t1", "t5", theorem) + ")");
        }
    }

    private String induction() {
        List<String> names = new ArrayList<>();
        model.functions.forEach((name, function) -> {
            if (function.measure != null) {
                names.add(name);
            }
        });
        String name = names.isEmpty() || random.nextInt(15) == 0 ? one("no", "car", "f") : names.get(random.nextInt(names.size()));
        int width = functions().getOrDefault(name, 1);
        int from = random.nextInt(VARIABLES.length - width + 1);
        StringBuilder told = new StringBuilder("(" + name);
        for (int k = 0; k < width; k++) {
            told.append(' ').append(VARIABLES[from + k]);
        }
        return told.append(random.nextInt(30) == 0 ? " x)" : ")").toString();
    }

    private String proof(int depth) {
        String x = term(random.nextInt(3), "x", "y");
        String y = term(random.nextInt(3), "x", "y");
        List<String> theorems = new ArrayList<>(model.theorems.keySet());
        List<String> functions = new ArrayList<>(model.functions.keySet());
        if (depth == 0 || random.nextInt(4) == 0) {
            String form = one("taut", "same", "value", "first", "second", "pair", "yes", "no", "def", "thm");
            switch (form) {
                case "taut":
                case "same":
                    return "(" + form + " " + x + ")";
                case "value":
                    return "(value " + one("(car C)", "(+ C C)", "(if C C C)", "(cons C C)", "(not C)", "(< C C)", "(f C)", "C")
                            .replace("C", constant()) + ")";
                case "yes":
                case "no":
                    return "(" + form + " " + x + " " + y + " " + x + ")";
                case "def":
                    return "(def " + (functions.isEmpty() ? "no" : functions.get(random.nextInt(functions.size()))) + ")";
                case "thm":
                    return "(thm " + (theorems.isEmpty() ? "no" : theorems.get(random.nextInt(theorems.size()))) + ")";
                default:
                    return "(" + form + " " + x + " " + y + ")";
            }
        }
        String p = proof(depth - 1);
        switch (random.nextInt(7)) {
            case 0:
                return "(weak (" + x + " " + y + ") " + p + ")";
            case 1:
                return "(cut " + x + " (weak (" + x + ") " + p + ") (weak ((not " + x + ")) " + proof(depth - 1) + "))";
            case 2:
                return "(cut " + x + " " + p + " " + proof(depth - 1) + ")";
            case 3:
                return "(inst " + p + " (x " + x + ") (" + one("y", "a", "x") + " " + y + "))";
            case 4:
                return "(swap " + p + ")";
            case 5:
                return "(put " + p + " " + proof(depth - 1) + ")";
            default:
                String same = "(equal " + x + " " + x + ")";
                String induction = induction();
                Model.Function function = model.functions.get(induction.substring(1).split("[ )]")[0]);
                int parts = function == null || function.measure == null ? 2 : Model.pathCount(function.body);
                StringBuilder told = new StringBuilder("(induct " + same + " " + induction);
                for (int k = 0; k < parts; k++) {
                    told.append(random.nextInt(6) == 0 ? " (weak ((consp x)) (same " + x + "))" : " (same " + x + ")");
                }
                return told.append(')').toString();
        }
    }

    private String spoiled(String text) {
        StringBuilder spoiled = new StringBuilder(text);
        for (int k = random.nextInt(3); k >= 0; k--) {
            int at = random.nextInt(spoiled.length() + 1);
            if (random.nextBoolean() && at < spoiled.length()) {
                spoiled.deleteCharAt(at);
            } else {
                spoiled.insert(at, one("(", ")", "'", ".", " ", ";", "\n", "a", "7", "A", ":", "\u00e9", "longsymbol12"));
            }
        }
        return spoiled.toString();
    }
}
