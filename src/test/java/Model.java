import java.util.ArrayList;
import java.util.HashMap;
import java.util.HashSet;
import java.util.LinkedHashMap;
import java.util.List;
import java.util.Map;
import java.util.Set;

/**
 * The document once more, as plainly as Java lets it be said: recursion, exceptions and the library's collections,
 * nothing shared with the class under test. ModelTest asks both the same.
 */
final class Model {
    static final long GREATEST = (1L << 62) - 1;
    private static final Map<String, Integer> BASE = new LinkedHashMap<>();
    private static final Set<String> RESERVED = new HashSet<>(List.of("quote", "nil", "t"));
    private static final Set<String> BOOLEANS = Set.of("equal", "implies", "<", "consp", "natp", "symbolp", "not");

    static {
        BASE.put("if", 3);
        for (String name : List.of("equal", "cons", "implies", "+", "-", "<")) {
            BASE.put(name, 2);
        }
        for (String name : List.of("consp", "car", "cdr", "natp", "symbolp", "height", "not")) {
            BASE.put(name, 1);
        }
        RESERVED.addAll(BASE.keySet());
    }

    /** A pair; naturals are Longs, symbols Strings. Equal pairs are made once, so identity is equality. */
    static final class Pair {
        final Object left;
        final Object right;
        final int height;

        Pair(Object left, Object right) {
            this.left = left;
            this.right = right;
            this.height = 1 + Math.max(heightOf(left), heightOf(right));
        }
    }

    /** A term: a variable (name alone), a constant (value alone), or a call. Equal terms are made once. */
    static final class Term {
        final String name;
        final Object value;
        final List<Term> terms;
        final int size;

        Term(String name, Object value, List<Term> terms) {
            this.name = name;
            this.value = value;
            this.terms = terms;
            this.size = 1 + (terms == null ? 0 : terms.stream().mapToInt(t -> t.size).sum());
        }

        boolean isConstant() {
            return value != null;
        }

        boolean isCall() {
            return terms != null;
        }

        boolean isVariable() {
            return !isConstant() && !isCall();
        }

        boolean calls(String function) {
            return isCall() && name.equals(function);
        }

        Term at(int k) {
            return terms.get(k);
        }
    }

    static final class Function {
        List<String> parameters;
        Term body;
        Term measure;
    }

    static final class Theorem {
        Term formula;
        List<Term> hypotheses = new ArrayList<>();
        Term left;
        Term right;
        boolean truthAlone;
        boolean turning;
        boolean on;
    }

    static final class Stop extends RuntimeException {
        private static final long serialVersionUID = 1;
        final String kind;
        final int what;
        final int place;
        final transient Object object;

        Stop(String kind, int what, int place, Object object) {
            super(kind, null, false, false);
            this.kind = kind;
            this.what = what;
            this.place = place;
            this.object = object;
        }
    }

    private static Stop flaw(int what, int place) {
        return new Stop("flaw", what, place, null);
    }

    private static Stop answer(int what) {
        return new Stop("answer", what, 0, null);
    }

    private static Stop fault(int what) {
        return new Stop("fault", what, 0, null);
    }

    private final Map<List<Object>, Pair> pairs = new HashMap<>();
    private final Map<List<Object>, Term> made = new HashMap<>();
    final Map<String, Function> functions = new LinkedHashMap<>();
    final Map<String, Theorem> theorems = new LinkedHashMap<>();
    final List<String> entries = new ArrayList<>();
    int fuel = 1000;
    int steps;
    int flaw;
    int place = -1;
    int workFault;
    int left;
    boolean proved;
    String out = "";
    private Set<String> muted = Set.of();
    private boolean missing;
    private final Term nil = constant("nil");
    private final Term t = constant("t");

    // OBJECTS AND TEXTS

    private static int heightOf(Object object) {
        return object instanceof Pair p ? p.height : 0;
    }

    private Pair pair(Object left, Object right) {
        return pairs.computeIfAbsent(List.of(left, right), k -> new Pair(left, right));
    }

    private Object list(List<Object> items, Object tail) {
        Object made = tail;
        for (int k = items.size() - 1; k >= 0; k--) {
            made = pair(items.get(k), made);
        }
        return made;
    }

    /** The items of a list; null for what is none. */
    private static List<Object> items(Object object) {
        List<Object> items = new ArrayList<>();
        Object at = object;
        while (at instanceof Pair p) {
            items.add(p.left);
            at = p.right;
        }
        return "nil".equals(at) ? items : null;
    }

    private String text;
    private int at;
    private int words;
    private String word;
    private int wordPlace;

    private void next() {
        while (at < text.length() && " \n;".indexOf(text.charAt(at)) >= 0) {
            if (text.charAt(at) == ';') {
                while (at < text.length() && text.charAt(at) != '\n') {
                    at++;
                }
            } else {
                at++;
            }
        }
        wordPlace = at;
        if (at == text.length()) {
            word = "";
            return;
        }
        int from = at;
        while (at < text.length() && isAtomic(text.charAt(at))) {
            at++;
        }
        if (at == from) {
            if ("()'.".indexOf(text.charAt(at)) < 0) {
                throw flaw(1, at);
            }
            at++;
        }
        word = text.substring(from, at);
        boolean digits = word.chars().allMatch(c -> c >= '0' && c <= '9');
        String bare = word.replaceFirst("^0+", "");
        if (digits ? bare.length() > 19 || bare.length() == 19 && bare.compareTo("" + GREATEST) > 0 : word.length() > 11) {
            throw flaw(2, from);
        }
    }

    private static boolean isAtomic(char c) {
        return c >= 'a' && c <= 'z' || c >= '0' && c <= '9' || "+-*/<>=?!_".indexOf(c) >= 0;
    }

    /** Takes the word that is next; what may stand there: o an object, ) and . themselves, e the end. */
    private void take(String may, int open) {
        char kind = word.isEmpty() ? 'e' : word.equals(")") || word.equals(".") ? word.charAt(0) : 'o';
        if (may.indexOf(kind) < 0) {
            throw flaw(3, wordPlace);
        }
        if ((word.equals("(") || word.equals("'")) && open >= 40) {
            throw flaw(4, wordPlace);
        }
        words++;
        if (kind != 'e' && words > 1000) {
            throw flaw(5, wordPlace);
        }
    }

    private Object read(String whole) {
        text = whole;
        at = 0;
        words = 0;
        next();
        take("o", 0);
        Object object = object(0);
        next();
        take("e", 0);
        return object;
    }

    private Object object(int open) {
        if (word.equals("'")) {
            next();
            take("o", open + 1);
            return list(List.of("quote", object(open + 1)), "nil");
        }
        if (!word.equals("(")) {
            return word.chars().allMatch(c -> c >= '0' && c <= '9') ? (Object) Long.parseLong(word) : word;
        }
        List<Object> items = new ArrayList<>();
        while (true) {
            next();
            take(items.isEmpty() ? "o)" : "o).", open + 1);
            if (word.equals(")")) {
                return list(items, "nil");
            }
            if (word.equals(".")) {
                next();
                take("o", open + 1);
                Object tail = object(open + 1);
                next();
                take(")", open + 1);
                return list(items, tail);
            }
            items.add(object(open + 1));
        }
    }

    private static String told(Object object, int limit) {
        StringBuilder told = new StringBuilder();
        tell(object, told, limit);
        return told.length() > limit ? told.substring(0, limit) : told.toString();
    }

    private static void tell(Object object, StringBuilder told, int limit) {
        if (told.length() >= limit) {
            return;
        }
        if (!(object instanceof Pair pair)) {
            told.append(object);
            return;
        }
        if ("quote".equals(pair.left) && pair.right instanceof Pair rest && "nil".equals(rest.right)) {
            told.append('\'');
            tell(rest.left, told, limit);
            return;
        }
        told.append('(');
        tell(pair.left, told, limit);
        Object rest = pair.right;
        while (rest instanceof Pair more && told.length() < limit) {
            told.append(' ');
            tell(more.left, told, limit);
            rest = more.right;
        }
        told.append("nil".equals(rest) ? "" : " . " + (rest instanceof Pair ? "" : rest)).append(')');
    }

    // TERMS

    private Term variable(String name) {
        return made.computeIfAbsent(List.of("v", name), k -> new Term(name, null, null));
    }

    private Term constant(Object value) {
        return made.computeIfAbsent(List.of("c", value), k -> new Term(null, value, null));
    }

    private Term callUnmeasured(String name, List<Term> terms) {
        return made.computeIfAbsent(List.of("f", name, terms), k -> new Term(name, null, terms));
    }

    private Term call(String name, Term... terms) {
        return fits(callUnmeasured(name, List.of(terms)));
    }

    private static Term fits(Term term) {
        if (term.size > 120) {
            throw fault(4);
        }
        return term;
    }

    private Object objectOf(Term term) {
        if (term.isVariable()) {
            return term.name;
        }
        if (term.isConstant()) {
            boolean bare = term.value instanceof Long || term == nil || term == t;
            return bare ? term.value : list(List.of("quote", term.value), "nil");
        }
        List<Object> items = new ArrayList<>();
        items.add(term.name);
        term.terms.forEach(x -> items.add(objectOf(x)));
        return list(items, "nil");
    }

    private Term not(Term x) {
        return x.calls("not") ? x.at(0) : x == nil ? t : x.isConstant() ? nil : call("not", x);
    }

    private boolean isNot(Term y, Term x) {
        if (x.calls("not")) {
            return y == x.at(0);
        }
        return x.isConstant() ? y == (x == nil ? t : nil) : y.calls("not") && y.at(0) == x;
    }

    private boolean isBoolean(Term x) {
        return x == t || x == nil || x.isCall() && BOOLEANS.contains(x.name);
    }

    private static void variables(Term x, Set<String> found) {
        if (x.isVariable()) {
            found.add(x.name);
        } else if (x.isCall()) {
            x.terms.forEach(y -> variables(y, found));
        }
    }

    static Set<String> variables(Term x) {
        Set<String> found = new java.util.LinkedHashSet<>();
        variables(x, found);
        return found;
    }

    private static void calls(Term x, String name, List<Term> found) {
        if (x.isCall()) {
            if (x.name.equals(name)) {
                found.add(x);
            }
            x.terms.forEach(y -> calls(y, name, found));
        }
    }

    private static List<Term> calls(Term x, String name) {
        List<Term> found = new ArrayList<>();
        calls(x, name, found);
        return found;
    }

    private Term filled(Term x, Map<String, Term> meanings) {
        if (x.isVariable()) {
            return meanings.getOrDefault(x.name, x);
        }
        return x.isConstant() ? x : fits(callUnmeasured(x.name, x.terms.stream().map(y -> filled(y, meanings)).toList()));
    }

    private Term replaced(Term x, Term from, Term to) {
        if (x == from) {
            return to;
        }
        return x.isCall() ? fits(callUnmeasured(x.name, x.terms.stream().map(y -> replaced(y, from, to)).toList())) : x;
    }

    private Map<String, Term> zip(List<String> names, List<Term> terms) {
        Map<String, Term> map = new HashMap<>();
        for (int k = 0; k < names.size(); k++) {
            map.put(names.get(k), terms.get(k));
        }
        return map;
    }

    private Term term(Object object, String own, int ownArity) {
        Term term = unmeasured(object, own, ownArity);
        if (term.size > 120) {
            throw answer(2);
        }
        return term;
    }

    private Term term(Object object) {
        return term(object, null, 0);
    }

    private Term unmeasured(Object object, String own, int ownArity) {
        if (object instanceof Long || "nil".equals(object) || "t".equals(object)) {
            return constant(object);
        }
        if (object instanceof String name) {
            return variable(name);
        }
        List<Object> items = items(object);
        if (items == null || !(items.get(0) instanceof String name)) {
            throw answer(2);
        }
        if (name.equals("quote")) {
            if (items.size() != 2) {
                throw answer(2);
            }
            return constant(items.get(1));
        }
        int arity = name.equals(own) ? ownArity : BASE.containsKey(name) ? BASE.get(name)
                : functions.containsKey(name) ? functions.get(name).parameters.size() : -9;
        if (arity != items.size() - 1) {
            throw answer(2);
        }
        List<Term> terms = new ArrayList<>();
        for (Object item : items.subList(1, items.size())) {
            terms.add(unmeasured(item, own, ownArity));
        }
        return callUnmeasured(name, List.copyOf(terms));
    }

    // VALUES

    private static long number(Object value) {
        return value instanceof Long n ? n : 0;
    }

    private static String truth(boolean holds) {
        return holds ? "t" : "nil";
    }

    /** Null for a sum that is TOO GREAT. */
    private Object baseValue(String name, List<Object> v) {
        Object a = v.get(0);
        Object b = v.size() > 1 ? v.get(1) : null;
        switch (name) {
            case "if": return !a.equals("nil") ? b : v.get(2);
            case "equal": return truth(a.equals(b));
            case "cons": return pair(a, b);
            case "implies": return truth(a.equals("nil") || !b.equals("nil"));
            case "+": return number(a) + number(b) > GREATEST ? null : (Object) (number(a) + number(b));
            case "-": return Math.max(0, number(a) - number(b));
            case "<": return truth(number(a) < number(b));
            case "consp": return truth(a instanceof Pair);
            case "car": return a instanceof Pair p ? p.left : "nil";
            case "cdr": return a instanceof Pair p ? p.right : "nil";
            case "natp": return truth(a instanceof Long);
            case "symbolp": return truth(a instanceof String);
            case "height": return (long) heightOf(a);
            default: return truth(a.equals("nil"));
        }
    }

    private void step() {
        if (steps >= fuel) {
            throw fault(1);
        }
        steps++;
    }

    private int evaluationSteps;

    private Object evaluated(Term x, Map<String, Object> values, int most, int open) {
        if (!x.isCall()) {
            return x.isVariable() ? values.get(x.name) : x.value;
        }
        if (open >= 300) {
            throw new Stop("evaluation", 2, 0, null);
        }
        if (evaluationSteps >= most) {
            throw new Stop("evaluation", 0, 0, null);
        }
        step();
        evaluationSteps++;
        if (x.calls("if")) {
            Object test = evaluated(x.at(0), values, most, open + 1);
            return evaluated(x.at(test.equals("nil") ? 2 : 1), values, most, open + 1);
        }
        List<Object> parts = new ArrayList<>();
        for (Term y : x.terms) {
            parts.add(evaluated(y, values, most, open + 1));
        }
        if (BASE.containsKey(x.name)) {
            Object value = baseValue(x.name, parts);
            if (value == null) {
                throw new Stop("evaluation", 3, 0, null);
            }
            return value;
        }
        Function function = functions.get(x.name);
        Map<String, Object> inner = new HashMap<>();
        for (int k = 0; k < parts.size(); k++) {
            inner.put(function.parameters.get(k), parts.get(k));
        }
        return evaluated(function.body, inner, most, open + 1);
    }

    // REWRITING

    private Term rewritten(Term x, boolean truth, List<Term> context, int open) {
        if (open >= 60) {
            throw fault(2);
        }
        step();
        Term out = cameOut(x, truth, context, open + 1);
        return truth && out.isConstant() && out != nil ? t : out;
    }

    private static List<Term> with(List<Term> context, Term more) {
        List<Term> longer = new ArrayList<>(context);
        longer.add(more);
        return longer;
    }

    private Term lookedUp(Term u, boolean truth, List<Term> context) {
        if (context.contains(u) && (truth || isBoolean(u))) {
            return t;
        }
        for (Term c : context) {
            if (c.calls("not") && c.at(0) == u) {
                return nil;
            }
        }
        for (Term c : context) {
            if (c.calls("equal") && c.at(0) == u && c.at(1).isConstant()) {
                return c.at(1);
            }
            if (c.calls("equal") && c.at(1) == u && c.at(0).isConstant()) {
                return c.at(0);
            }
        }
        return u;
    }

    private Term cameOut(Term x, boolean truth, List<Term> context, int open) {
        if (x.isConstant()) {
            return x;
        }
        if (x.isVariable()) {
            return lookedUp(x, truth, context);
        }
        if (x.calls("if")) {
            return ifOut(x, truth, context, open);
        }
        if (x.calls("implies")) {
            return rewritten(call("if", x.at(0), call("if", x.at(1), t, nil), t), truth, context, open);
        }
        if (x.calls("not")) {
            Term a = rewritten(x.at(0), true, context, open);
            Term out = a.calls("not") && !isBoolean(a.at(0)) && !truth ? call("not", a) : not(a);
            return out.isConstant() ? out : lookedUp(out, truth, context);
        }
        List<Term> terms = new ArrayList<>();
        for (Term y : x.terms) {
            terms.add(rewritten(y, false, context, open));
        }
        Term u = fits(callUnmeasured(x.name, List.copyOf(terms)));
        Term value = valueOf(u);
        return value != null ? value : reduced(u, truth, context, open);
    }

    private Term ifOut(Term x, boolean truth, List<Term> context, int open) {
        Term a = rewritten(x.at(0), true, context, open);
        if (a.isConstant()) {
            return rewritten(x.at(a == nil ? 2 : 1), truth, context, open);
        }
        boolean exchanged = a.calls("not");
        a = exchanged ? a.at(0) : a;
        Term b = rewritten(x.at(exchanged ? 2 : 1), truth, with(context, a), open);
        Term c = rewritten(x.at(exchanged ? 1 : 2), truth, with(context, not(a)), open);
        if (b == c) {
            return b;
        }
        if (b == t && c == nil && (truth || isBoolean(a))) {
            return a;
        }
        return b == nil && c == t ? call("not", a) : call("if", a, b, c);
    }

    private Term valueOf(Term u) {
        if (!u.terms.stream().allMatch(Term::isConstant)) {
            return null;
        }
        if (BASE.containsKey(u.name)) {
            Object value = baseValue(u.name, u.terms.stream().map(y -> y.value).toList());
            return value == null ? null : constant(value);
        }
        try {
            evaluationSteps = 0;
            return constant(evaluated(u, Map.of(), 100, 0));
        } catch (Stop stop) {
            if (!stop.kind.equals("evaluation")) {
                throw stop;
            }
            return null;
        }
    }

    private Term reduced(Term u, boolean truth, List<Term> context, int open) {
        Term x = u.terms.isEmpty() ? null : u.at(0);
        Term y = u.terms.size() < 2 ? null : u.at(1);
        switch (u.name) {
            case "equal":
                if (x == y) {
                    return t;
                }
                if (x.calls("cons") && y.isConstant() && !(y.value instanceof Pair)
                        || y.calls("cons") && x.isConstant() && !(x.value instanceof Pair)) {
                    return nil;
                }
                if (x.calls("cons") && y.calls("cons")) {
                    return rewritten(call("if", call("equal", x.at(0), y.at(0)), call("equal", x.at(1), y.at(1)), nil),
                            truth, context, open);
                }
                break;
            case "car":
            case "cdr":
                if (x.calls("cons")) {
                    return x.at(u.name.equals("car") ? 0 : 1);
                }
                break;
            case "consp":
            case "natp":
            case "symbolp":
                if (x.calls("cons")) {
                    return u.name.equals("consp") ? t : nil;
                }
                if (x.calls("+") || x.calls("-") || x.calls("height")) {
                    return u.name.equals("natp") ? t : nil;
                }
                break;
            case "<":
                if (x == y || y == constant(0L)) {
                    return nil;
                }
                if (x.calls("height") && y.calls("height") && (x.at(0).calls("car") || x.at(0).calls("cdr"))
                        && x.at(0).at(0) == y.at(0)) {
                    return rewritten(call("consp", y.at(0)), truth, context, open);
                }
                if (x.calls("-") && x.at(0) == y && x.at(1).isConstant() && number(x.at(1).value) > 0) {
                    return rewritten(call("<", constant(0L), y), truth, context, open);
                }
                break;
            default:
                break;
        }
        Term found = lookedUp(u, truth, context);
        return found != u ? found : ruled(u, truth, context, open);
    }

    private Map<String, Term> matched(Term pattern, Term x) {
        Map<String, Term> meanings = new LinkedHashMap<>();
        return matches(pattern, x, meanings) ? meanings : null;
    }

    private boolean matches(Term pattern, Term x, Map<String, Term> meanings) {
        if (pattern.isVariable()) {
            Term known = meanings.putIfAbsent(pattern.name, x);
            return known == null || known == x;
        }
        if (pattern.isConstant() || !x.calls(pattern.name)) {
            return pattern == x;
        }
        for (int k = 0; k < pattern.terms.size(); k++) {
            if (!matches(pattern.at(k), x.at(k), meanings)) {
                return false;
            }
        }
        return true;
    }

    private Term ruled(Term u, boolean truth, List<Term> context, int open) {
        List<String> names = new ArrayList<>(theorems.keySet());
        for (int k = names.size() - 1; k >= 0; k--) {
            Theorem rule = theorems.get(names.get(k));
            boolean looked = rule.left != null && rule.on && !muted.contains(names.get(k)) && (truth || !rule.truthAlone);
            Map<String, Term> meanings = looked ? matched(rule.left, u) : null;
            if (meanings == null) {
                continue;
            }
            step();
            if (rule.turning && !isSmaller(filled(rule.right, meanings), u)) {
                continue;
            }
            boolean holds = true;
            for (int h = 0; h < rule.hypotheses.size() && holds; h++) {
                holds = rewritten(filled(rule.hypotheses.get(h), meanings), true, context, open) == t;
            }
            if (holds) {
                return rewritten(filled(rule.right, meanings), truth, context, open);
            }
        }
        Function function = functions.get(u.name);
        if (function == null) {
            return u;
        }
        Map<String, Term> meanings = zip(function.parameters, u.terms);
        if (function.measure == null) {
            return rewritten(filled(function.body, meanings), truth, context, open);
        }
        if (!function.body.calls("if")) {
            return u;
        }
        Term q = rewritten(filled(function.body.at(0), meanings), true, context, open);
        return q.isConstant() ? rewritten(filled(function.body.at(q == nil ? 2 : 1), meanings), truth, context, open) : u;
    }

    private boolean isSmaller(Term x, Term than) {
        return told(objectOf(x), 200).compareTo(told(objectOf(than), 200)) < 0;
    }

    // CLAUSES

    private static List<Term> different(List<Term> literals) {
        return new ArrayList<>(new java.util.LinkedHashSet<>(literals));
    }

    private static List<Term> clause(List<Term> literals) {
        List<Term> clause = different(literals);
        if (clause.size() > 30 || clause.stream().mapToInt(x -> x.size).sum() > 400) {
            throw fault(4);
        }
        return clause;
    }

    private static List<Term> around(List<Term> clause, int at, Term... instead) {
        List<Term> literals = new ArrayList<>(clause.subList(0, at));
        literals.addAll(List.of(instead));
        literals.addAll(clause.subList(at + 1, clause.size()));
        return literals;
    }

    private boolean isPlain(List<Term> clause) {
        return clause.stream().anyMatch(x -> x.isConstant() && x != nil || clause.stream().anyMatch(y -> isNot(y, x)));
    }

    private boolean leavesNone(List<List<Term>> clauses) {
        List<List<Term>> leftOnes = new ArrayList<>();
        for (List<Term> clause : clauses) {
            takeUp(clause, 0, leftOnes);
        }
        left = leftOnes.size();
        proved = leftOnes.isEmpty();
        List<Object> told = new ArrayList<>();
        leftOnes.forEach(c -> told.add(listOf(c)));
        out = proved ? "" : told(list(told, "nil"), 2000);
        return proved;
    }

    private Object listOf(List<Term> clause) {
        return list(clause.stream().map(this::objectOf).toList(), "nil");
    }

    private void takeUp(List<Term> clause, int rounds, List<List<Term>> leftOnes) {
        if (leftOnes.size() >= 20 || isPlain(clause)) {
            return;
        }
        if (rounds == 6) {
            leftOnes.add(clause);
            return;
        }
        List<Term> now = clause;
        int k = 0;
        while (k < now.size()) {
            List<Term> context = new ArrayList<>();
            for (int j = 0; j < now.size(); j++) {
                if (j != k) {
                    context.add(not(now.get(j)));
                }
            }
            Term o = rewritten(now.get(k), true, context, 0);
            if (o == t) {
                return;
            }
            boolean negative = o.calls("not") && o.at(0).calls("if");
            if (negative || o.calls("if")) {
                Term choice = negative ? o.at(0) : o;
                Term a = choice.at(0);
                List<Term> one = clause(around(now, k, not(a), negative ? not(choice.at(1)) : choice.at(1)));
                List<Term> two = clause(around(now, k, a, negative ? not(choice.at(2)) : choice.at(2)));
                takeUp(one, rounds + 1, leftOnes);
                takeUp(two, rounds + 1, leftOnes);
                return;
            }
            List<Term> changed = o == nil ? around(now, k) : different(around(now, k, o));
            boolean stays = k < changed.size() && changed.get(k) == o && o != nil;
            now = changed;
            k += stays ? 1 : 0;
        }
        if (now.equals(clause)) {
            leftOnes.add(clause);
        } else {
            takeUp(clause(now), rounds + 1, leftOnes);
        }
    }

    // COMMANDS

    /** A PATH: its RULERS and its END. */
    private record Path(List<Term> tests, List<Boolean> through, Term end) {
    }

    private static void paths(Term x, List<Term> tests, List<Boolean> through, List<Path> found) {
        if (!x.calls("if")) {
            found.add(new Path(tests, through, x));
            return;
        }
        for (int side = 1; side <= 2; side++) {
            List<Boolean> longer = new ArrayList<>(through);
            longer.add(side == 1);
            paths(x.at(side), with(tests, x.at(0)), longer, found);
        }
    }

    static List<Path> paths(Term body) {
        List<Path> found = new ArrayList<>();
        paths(body, List.of(), List.of(), found);
        return found;
    }

    static int pathCount(Term body) {
        return paths(body).size();
    }

    private List<Term> notRulers(Path path, Map<String, Term> meanings) {
        List<Term> literals = new ArrayList<>();
        for (int k = 0; k < path.tests.size(); k++) {
            Term test = filled(path.tests.get(k), meanings);
            literals.add(not(path.through.get(k) ? test : not(test)));
        }
        return literals;
    }

    private static String name(Object object) {
        if (object instanceof String name && !RESERVED.contains(name)) {
            return name;
        }
        throw answer(2);
    }

    private static String variableName(Object object) {
        if (object instanceof String name && !name.equals("nil") && !name.equals("t")) {
            return name;
        }
        throw answer(2);
    }

    private static void need(boolean so) {
        if (!so) {
            throw answer(2);
        }
    }

    private static List<String> differentNames(List<Object> objects) {
        List<String> names = new ArrayList<>();
        for (Object object : objects) {
            names.add(variableName(object));
        }
        need(new HashSet<>(names).size() == names.size());
        return names;
    }

    int run(String whole) {
        out = "";
        steps = 0;
        flaw = 0;
        place = -1;
        workFault = 0;
        left = 0;
        proved = false;
        missing = false;
        muted = Set.of();
        try {
            return done(read(whole));
        } catch (Stop stop) {
            switch (stop.kind) {
                case "flaw":
                    flaw = stop.what;
                    place = stop.place;
                    return 1;
                case "answer":
                    return stop.what;
                case "proof":
                    out = told(stop.object, 2000);
                    return 7;
                default:
                    workFault = stop.what;
                    left = 0;
                    proved = false;
                    out = "";
                    return 4;
            }
        }
    }

    private int done(Object order) {
        List<Object> items = items(order);
        need(items != null && !items.isEmpty());
        int n = items.size();
        switch (items.get(0) instanceof String head ? head : "") {
            case "eval":
                need(n == 2);
                Term x = term(items.get(1));
                need(variables(x).isEmpty());
                evaluationSteps = 0;
                out = told(evaluated(x, Map.of(), Integer.MAX_VALUE, 0), 2000);
                return 0;
            case "simplify":
                need(n == 2);
                out = told(objectOf(rewritten(term(items.get(1)), false, List.of(), 0)), 2000);
                return 0;
            case "prove":
                need(n >= 2);
                return prove(null, term(items.get(1)), items.subList(2, n));
            case "defthm":
                need(n >= 3);
                return prove(name(items.get(1)), term(items.get(2)), items.subList(3, n));
            case "check":
                need(n == 4);
                return check(name(items.get(1)), term(items.get(2)), items.get(3));
            case "defun":
                need(n == 4 || n == 5);
                return define(items);
            case "on":
            case "off":
                need(n == 2);
                Theorem theorem = theorems.get(name(items.get(1)));
                if (theorem == null || theorem.left == null) {
                    return 3;
                }
                theorem.on = items.get(0).equals("on");
                return 0;
            case "undo":
                need(n == 1);
                return undo();
            default:
                return 2;
        }
    }

    private int undo() {
        if (entries.isEmpty()) {
            return 3;
        }
        String entry = entries.remove(entries.size() - 1);
        (entry.startsWith("1") ? functions : theorems).remove(entry.substring(1));
        return 0;
    }

    private int define(List<Object> items) {
        String f = name(items.get(1));
        List<Object> listed = items(items.get(2));
        need(listed != null && listed.size() <= 6);
        Function function = new Function();
        function.parameters = differentNames(listed);
        function.body = term(items.get(3), f, listed.size());
        function.measure = items.size() == 5 ? term(items.get(4), f, -5) : null;
        need(function.parameters.containsAll(variables(function.body)));
        need(function.measure == null || function.parameters.containsAll(variables(function.measure)));
        need(calls(function.body, f).isEmpty() == (function.measure == null));
        List<List<Term>> clauses = new ArrayList<>();
        for (Path path : paths(function.body)) {
            need(path.tests.stream().allMatch(x -> calls(x, f).isEmpty()));
            for (Term call : calls(path.end, f)) {
                need(call.terms.stream().allMatch(x -> calls(x, f).isEmpty()));
            }
        }
        if (functions.containsKey(f)) {
            return 3;
        }
        if (functions.size() >= 40) {
            return 8;
        }
        for (Path path : paths(function.body)) {
            for (Term call : calls(path.end, f)) {
                List<Term> literals = notRulers(path, Map.of());
                literals.add(call("<", filled(function.measure, zip(function.parameters, call.terms)), function.measure));
                clauses.add(clause(literals));
            }
        }
        if (!clauses.isEmpty() && !leavesNone(clauses)) {
            return 5;
        }
        functions.put(f, function);
        entries.add("1" + f);
        return 0;
    }

    /** The function and the variables of (f v ..); null when there is no such function. */
    private List<String> induction(Object object) {
        List<Object> items = items(object);
        need(items != null && !items.isEmpty());
        String f = name(items.get(0));
        List<String> names = differentNames(items.subList(1, items.size()));
        Function function = functions.get(f);
        if (function == null) {
            missing = true;
            return null;
        }
        need(function.measure != null && function.parameters.size() == names.size());
        names.add(0, f);
        return names;
    }

    private Map<String, Term> meanings(List<Object> told) {
        Map<String, Term> meanings = new LinkedHashMap<>();
        for (Object object : told) {
            List<Object> pair = items(object);
            need(pair != null && pair.size() == 2);
            need(meanings.put(variableName(pair.get(0)), term(pair.get(1))) == null);
        }
        return meanings;
    }

    /** The literals that induct has for a PATH. */
    private List<Term> inductionLiterals(Term formula, List<String> induction, Path path) {
        Function function = functions.get(induction.get(0));
        List<String> names = induction.subList(1, induction.size());
        Map<String, Term> renamed = zip(function.parameters, names.stream().map(this::variable).toList());
        List<Term> literals = notRulers(path, renamed);
        for (Term call : calls(path.end, induction.get(0))) {
            List<Term> terms = call.terms.stream().map(x -> filled(x, renamed)).toList();
            literals.add(not(filled(formula, zip(names, terms))));
        }
        literals.add(formula);
        return literals;
    }

    private int prove(String n, Term formula, List<Object> hints) {
        List<String> induction = null;
        boolean inducts = false;
        Set<String> off = null;
        List<String> used = new ArrayList<>();
        List<Map<String, Term>> usedWith = new ArrayList<>();
        for (Object hint : hints) {
            List<Object> items = items(hint);
            need(items != null && items.size() >= 2);
            if ("induct".equals(items.get(0))) {
                need(items.size() == 2 && !inducts);
                inducts = true;
                induction = induction(items.get(1));
            } else if ("use".equals(items.get(0))) {
                String n2 = name(items.get(1));
                Map<String, Term> meanings = meanings(items.subList(2, items.size()));
                missing |= !theorems.containsKey(n2);
                if (theorems.containsKey(n2)) {
                    need(variables(theorems.get(n2).formula).containsAll(meanings.keySet()));
                    used.add(n2);
                    usedWith.add(meanings);
                }
            } else {
                need("off".equals(items.get(0)) && off == null);
                off = new HashSet<>();
                for (Object object : items.subList(1, items.size())) {
                    off.add(name(object));
                    missing |= !theorems.containsKey(object);
                }
            }
        }
        if (missing || theorems.containsKey(n)) {
            return 3;
        }
        if (n != null && theorems.size() >= 60) {
            return 8;
        }
        List<Term> ahead = new ArrayList<>();
        for (int k = 0; k < used.size(); k++) {
            ahead.add(not(filled(theorems.get(used.get(k)).formula, usedWith.get(k))));
        }
        List<List<Term>> clauses = new ArrayList<>();
        for (Path path : inducts ? paths(functions.get(induction.get(0)).body) : List.of(new Path(null, null, null))) {
            List<Term> whole = new ArrayList<>(ahead);
            whole.addAll(inducts ? inductionLiterals(formula, induction, path) : List.of(formula));
            clauses.add(clause(whole));
        }
        muted = off == null ? Set.of() : off;
        if (!leavesNone(clauses)) {
            return 6;
        }
        if (n != null) {
            take("2", n, formula);
        }
        return 0;
    }

    private void take(String kind, String n, Term formula) {
        Theorem theorem = new Theorem();
        theorem.formula = formula;
        Term look = formula;
        while (look.calls("implies")) {
            addHypotheses(theorem.hypotheses, look.at(0));
            look = look.at(1);
        }
        boolean equal = look.calls("equal");
        boolean not = look.calls("not");
        Term l = equal || not ? look.at(0) : look;
        Term r = equal ? look.at(1) : not ? nil : t;
        boolean rule = l.isCall() && !Set.of("if", "not", "implies").contains(l.name) && l != r
                && variables(l).containsAll(variables(r))
                && theorem.hypotheses.stream().allMatch(h -> variables(l).containsAll(variables(h)));
        if (rule) {
            theorem.left = l;
            theorem.right = r;
            theorem.truthAlone = !equal && !not && !isBoolean(l);
            Map<String, Term> turned = matched(l, r);
            theorem.turning = turned != null && turned.values().stream().allMatch(Term::isVariable)
                    && new HashSet<>(turned.values()).size() == turned.size();
            theorem.on = true;
        }
        theorems.put(n, theorem);
        entries.add(kind + n);
    }

    private void addHypotheses(List<Term> hypotheses, Term h) {
        if (h.calls("if") && h.at(2) == nil) {
            addHypotheses(hypotheses, h.at(0));
            addHypotheses(hypotheses, h.at(1));
        } else {
            hypotheses.add(h);
        }
    }

    // PROOFS

    private int check(String n, Term formula, Object proof) {
        if (theorems.containsKey(n)) {
            return 3;
        }
        if (theorems.size() >= 60) {
            return 8;
        }
        List<Term> clause = clauseOf(proof, 0);
        if (clause.stream().anyMatch(x -> x != formula)) {
            out = told(listOf(clause), 2000);
            return 7;
        }
        take("3", n, formula);
        return 0;
    }

    /** The first literal of the PROOF's clause, to make formulas of; null when there is none. */
    String firstLiteral(String proof) {
        int before = fuel;
        fuel = 1000;
        steps = 0;
        try {
            List<Term> clause = clauseOf(read(proof), 0);
            return clause.isEmpty() ? null : told(objectOf(clause.get(0)), 100000);
        } catch (Stop stop) {
            return null;
        } finally {
            fuel = before;
        }
    }

    private List<Term> clauseOf(Object proof, int open) {
        if (open >= 40) {
            throw fault(2);
        }
        step();
        try {
            List<Object> items = items(proof);
            need(items != null && !items.isEmpty() && items.get(0) instanceof String);
            return clause(concluded((String) items.get(0), items, open + 1));
        } catch (Stop stop) {
            throw stop.kind.equals("answer") ? new Stop("proof", 7, 0, proof) : stop;
        }
    }

    private List<Term> concluded(String form, List<Object> items, int open) {
        int n = items.size();
        switch (form) {
            case "taut":
                need(n == 2);
                Term x = term(items.get(1));
                return List.of(x, not(x));
            case "same":
                need(n == 2);
                return List.of(call("equal", term(items.get(1)), term(items.get(1))));
            case "value":
                need(n == 2);
                Term v = term(items.get(1));
                need(v.isCall() && BASE.containsKey(v.name) && v.terms.stream().allMatch(Term::isConstant));
                Object value = baseValue(v.name, v.terms.stream().map(y -> y.value).toList());
                need(value != null);
                return List.of(call("equal", v, constant(value)));
            case "first":
            case "second":
            case "pair":
                need(n == 3);
                Term l = term(items.get(1));
                Term m = term(items.get(2));
                Term both = call("cons", l, m);
                return List.of(form.equals("pair") ? call("consp", both)
                        : form.equals("first") ? call("equal", call("car", both), l) : call("equal", call("cdr", both), m));
            case "yes":
            case "no":
                need(n == 4);
                Term test = term(items.get(1));
                Term a = term(items.get(2));
                Term b = term(items.get(3));
                return List.of(form.equals("yes") ? not(test) : test,
                        call("equal", call("if", test, a, b), form.equals("yes") ? a : b));
            case "def":
                need(n == 2 && items.get(1) instanceof String && functions.containsKey(items.get(1)));
                Function function = functions.get(items.get(1));
                Term head = fits(callUnmeasured((String) items.get(1), function.parameters.stream().map(this::variable).toList()));
                return List.of(call("equal", head, function.body));
            case "thm":
                need(n == 2 && items.get(1) instanceof String && theorems.containsKey(items.get(1)));
                return List.of(theorems.get(items.get(1)).formula);
            default:
                return concludedOfParts(form, items, open);
        }
    }

    private List<Term> concludedOfParts(String form, List<Object> items, int open) {
        int n = items.size();
        List<Term> made = new ArrayList<>();
        switch (form) {
            case "weak":
                need(n == 3 && items(items.get(1)) != null);
                List<Term> more = new ArrayList<>();
                items(items.get(1)).forEach(object -> more.add(term(object)));
                made.addAll(clauseOf(items.get(2), open));
                made.addAll(more);
                return made;
            case "cut":
                need(n == 4);
                Term literal = term(items.get(1));
                List<Term> one = clauseOf(items.get(2), open);
                List<Term> two = clauseOf(items.get(3), open);
                need(one.contains(literal) && two.stream().anyMatch(y -> isNot(y, literal)));
                one.stream().filter(x -> x != literal).forEach(made::add);
                two.stream().filter(y -> !isNot(y, literal)).forEach(made::add);
                return made;
            case "inst":
                need(n >= 2);
                Map<String, Term> meanings = meanings(items.subList(2, n));
                clauseOf(items.get(1), open).forEach(x -> made.add(filled(x, meanings)));
                return made;
            case "swap":
            case "put":
                need(n == (form.equals("swap") ? 2 : 3));
                List<Term> first = clauseOf(items.get(1), open);
                List<Term> second = form.equals("swap") ? List.of() : clauseOf(items.get(2), open);
                need(!first.isEmpty() && first.get(0).calls("equal"));
                Term from = first.get(0).at(0);
                Term to = first.get(0).at(1);
                second.forEach(x -> made.add(replaced(x, from, to)));
                if (form.equals("swap")) {
                    made.add(call("equal", to, from));
                }
                made.addAll(first.subList(1, first.size()));
                return made;
            case "induct":
                need(n >= 3);
                Term formula = term(items.get(1));
                List<String> induction = induction(items.get(2));
                List<Path> paths = induction == null ? List.of() : paths(functions.get(induction.get(0)).body);
                need(induction != null && paths.size() == n - 3);
                List<List<Term>> parts = new ArrayList<>();
                items.subList(3, n).forEach(part -> parts.add(clauseOf(part, open)));
                for (int k = 0; k < parts.size(); k++) {
                    need(clause(inductionLiterals(formula, induction, paths.get(k))).containsAll(parts.get(k)));
                }
                return List.of(formula);
            default:
                throw answer(2);
        }
    }

    // The face, as far as it is not a field.

    int count(int what) {
        switch (what) {
            case 0: return functions.size();
            case 1: return theorems.size();
            case 2: return (int) theorems.values().stream().filter(x -> x.left != null).count();
            case 3: return (int) theorems.values().stream().filter(x -> x.left != null && x.on).count();
            default: return left;
        }
    }

    /** OUT becomes what the k-th was. */
    void tell(int k) {
        String n = entries.get(k).substring(1);
        List<Object> told = new ArrayList<>();
        if (entries.get(k).startsWith("1")) {
            Function function = functions.get(n);
            told.addAll(List.of("defun", n, list(new ArrayList<>(function.parameters), "nil"), objectOf(function.body)));
            if (function.measure != null) {
                told.add(objectOf(function.measure));
            }
        } else {
            told.addAll(List.of("theorem", n, objectOf(theorems.get(n).formula)));
        }
        out = told(list(told, "nil"), 2000);
    }
}
