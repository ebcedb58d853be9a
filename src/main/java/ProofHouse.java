import java.util.Arrays;

/**
 * A house of proofs about a pure first-order Lisp. The document DOC.md says what each call answers; words in capitals
 * are the document's.
 */
public final class ProofHouse {
    public static final int NONE = -1;

    private static final int DONE = 0;
    private static final int NOT_READ = 1;
    private static final int NOT_AS_TOLD = 2;
    private static final int NAME_WRONG = 3;
    private static final int NOT_WORKED = 4;
    private static final int NOT_FALLING = 5;
    private static final int NOT_PROVED = 6;
    private static final int PROOF_WRONG = 7;
    private static final int NO_ROOM = 8;

    private static final int OUT_OF_FUEL = 1;
    private static final int TOO_DEEP = 2;
    private static final int TOO_GREAT = 3;
    private static final int TOO_BIG = 4;

    private static final int TEXT_LIMIT = 3000;
    private static final int OUT_LIMIT = 2000;
    private static final int WAITING_BYTES = 20;
    private static final int FUEL_LIMIT = 1000;
    private static final int SIZE_LIMIT = 120;
    private static final int PARAMETER_LIMIT = 6;
    private static final int FUNCTION_LIMIT = 40;
    private static final int THEOREM_LIMIT = 60;
    /** Far above what any loop of one command can need. */
    private static final int MANY = 1000000;

    /** The place of a character here is its digit in a symbol's code; the blank stands for none. */
    private static final String ALPHABET = " abcdefghijklmnopqrstuvwxyz0123456789+-*/<>=?!_";
    private static final int ALPHABET_BASE = 47;
    /** The symbols that the program itself knows: the n-th is node n of every room, as the constants below say. */
    private static final String KNOWN = "nil t quote if equal cons implies + - < consp car cdr natp symbolp height not eval simplify prove defun defthm check on off undo use theorem taut same value first second pair yes no def thm weak cut inst swap put induct ";
    private static final int NIL = 0;
    private static final int T = 1;
    private static final int QUOTE = 2;
    private static final int IF = 3;
    private static final int EQUAL = 4;
    private static final int CONS = 5;
    private static final int IMPLIES = 6;
    private static final int PLUS = 7;
    private static final int MINUS = 8;
    private static final int LESS = 9;
    private static final int CONSP = 10;
    private static final int CAR = 11;
    private static final int CDR = 12;
    private static final int NATP = 13;
    private static final int SYMBOLP = 14;
    private static final int HEIGHT = 15;
    /** The last of the RESERVED symbols, and of the BASE functions, which begin with IF. */
    private static final int NOT = 16;
    private static final int EVAL = 17;
    private static final int SIMPLIFY = 18;
    private static final int PROVE = 19;
    private static final int DEFUN = 20;
    private static final int DEFTHM = 21;
    private static final int CHECK = 22;
    private static final int ON = 23;
    private static final int OFF = 24;
    private static final int UNDO = 25;
    private static final int USE = 26;
    private static final int THEOREM = 27;
    /** The first of the PROOFS' names, the last of which is INDUCT. */
    private static final int TAUT = 28;
    private static final int SAME = 29;
    private static final int VALUE_OF = 30;
    private static final int FIRST = 31;
    private static final int SECOND = 32;
    private static final int PAIR = 33;
    private static final int YES = 34;
    private static final int NO = 35;
    private static final int DEF = 36;
    private static final int THM = 37;
    private static final int WEAK = 38;
    private static final int CUT = 39;
    private static final int INST = 40;
    private static final int SWAP = 41;
    private static final int PUT = 42;
    private static final int INDUCT = 43;

    /** A node's cell: a pair's is negative, a symbol's has this bit, a natural's is the number itself. */
    private static final long SYMBOL_BIT = 1L << 62;
    private static final long GREATEST = SYMBOL_BIT - 1;
    private static final long PAIR_BIT = 1L << 63;
    private static final int SIDE = 0x7FFFFFFF;
    private static final int SIDE_BITS = 31;

    /** What a term is REWRITTEN for. */
    private static final int VALUE = 0;
    private static final int TRUTH = 1;

    /** The ways of Terms.rebuilt: a TEXT's object read as a term, an instance, one term put for another. */
    private static final int READ = 0;
    private static final int FILL = 1;
    private static final int REPLACE = 2;

    private static long pairCell(int left, int right) {
        return PAIR_BIT | (long) (left < 0 ? NIL : left) << SIDE_BITS | (right < 0 ? NIL : right);
    }

    /**
     * The nodes of all objects, terms and CONTEXTS, and what the command may still spend. Equal objects are the same
     * node, so that values that share their parts can be compared and measured at once. A node's parts are older than
     * it, so every walk along them ends. What was made last is forgotten first.
     */
    private static final class Room {
        /**
         * More than 512 calls can fill. The dearest PROOFS are inst and put, of seven words at least: each remakes a
         * clause of 400 with two nodes for each call, so 1000 words make fewer than 115,000. A STEP of REWRITING makes
         * fewer than ninety, the clauses that are given fewer than 15,000, all the texts fewer than 15,000.
         */
        private static final int NODE_LIMIT = 160000;
        private static final int SLOTS = 1 << 15;
        private static final int SLOT_SHIFT = 49;
        private static final long SPREAD = 0x9E3779B97F4A7C15L;
        private static final int SUM_LIMIT = 1000000;

        private final long[] cells = new long[NODE_LIMIT];
        private final int[] chain = new int[NODE_LIMIT];
        /** Of a pair, taken as a row of terms: their SIZES together. */
        private final int[] sums = new int[NODE_LIMIT];
        private final int[] heights = new int[NODE_LIMIT];
        private final int[] heads = new int[SLOTS];
        private int used = 0;
        private int given = 0;
        private int spent = 0;
        private int trouble = 0;

        Room() {
            Arrays.fill(heads, NONE);
            long code = 0;
            for (int i = 0; i < KNOWN.length(); i++) {
                int digit = ALPHABET.indexOf(KNOWN.charAt(i));
                if (digit > 0) {
                    code = code * ALPHABET_BASE + digit;
                } else {
                    made(SYMBOL_BIT | code);
                    code = 0;
                }
            }
        }

        void begin(int fuelGiven) {
            given = fuelGiven;
            spent = 0;
            trouble = 0;
        }

        boolean step() {
            if (spent >= given) {
                trouble = trouble == 0 ? OUT_OF_FUEL : trouble;
                return false;
            }
            spent++;
            return true;
        }

        void blame(int what) {
            if (trouble == 0) {
                trouble = what;
            }
        }

        /** The node with this cell. A full room is TOO BIG. */
        int made(long cell) {
            int slot = (int) ((cell * SPREAD) >>> SLOT_SHIFT);
            for (int i = heads[slot]; i >= 0; i = chain[i]) {
                if (cells[i] == cell) {
                    return i;
                }
            }
            if (used >= NODE_LIMIT) {
                trouble = trouble == 0 ? TOO_BIG : trouble;
                return NIL;
            }
            int node = used;
            used++;
            cells[node] = cell;
            chain[node] = heads[slot];
            heads[slot] = node;
            sums[node] = 0;
            heights[node] = 0;
            int left = (int) (cell >>> SIDE_BITS) & SIDE;
            int right = (int) cell & SIDE;
            if (cell < 0 && left < node && right < node) {
                long first = cells[left];
                boolean call = first < 0 && ((int) (first >>> SIDE_BITS) & SIDE) != QUOTE;
                int sum = 1 + (call ? sums[(int) first & SIDE] : 0) + sums[right];
                sums[node] = sum < SUM_LIMIT ? sum : SUM_LIMIT;
                heights[node] = 1 + (heights[left] > heights[right] ? heights[left] : heights[right]);
            }
            return node;
        }

        void forget(int mark) {
            for (int i = used - 1; i >= mark && i >= 0; i--) {
                heads[(int) ((cells[i] * SPREAD) >>> SLOT_SHIFT)] = chain[i];
            }
            used = Math.max(0, Math.min(used, mark));
        }

        long cellOf(int node) {
            return node >= 0 && node < used ? cells[node] : SYMBOL_BIT;
        }

        boolean isPair(int node) {
            return node >= 0 && node < used && cells[node] < 0;
        }

        boolean isNatural(int node) {
            return node >= 0 && node < used && cells[node] >>> 62 == 0;
        }

        boolean isSymbol(int node) {
            return node >= 0 && node < used && cells[node] >>> 62 == 1;
        }

        boolean isVariable(int node) {
            return node > T && node < used && cells[node] >>> 62 == 1;
        }

        /** Whether a command can give this name to a function or a theorem. */
        boolean isName(int node) {
            return node > NOT && node < used && cells[node] >>> 62 == 1;
        }

        boolean isConstant(int term) {
            if (term < 0 || term >= used) {
                return false;
            }
            long cell = cells[term];
            return cell < 0 ? ((int) (cell >>> SIDE_BITS) & SIDE) == QUOTE : cell < SYMBOL_BIT || term <= T;
        }

        boolean isCall(int term) {
            return term >= 0 && term < used && cells[term] < 0
                    && ((int) (cells[term] >>> SIDE_BITS) & SIDE) != QUOTE;
        }

        boolean isCallOf(int term, int name) {
            return term >= 0 && term < used && cells[term] < 0
                    && ((int) (cells[term] >>> SIDE_BITS) & SIDE) == name;
        }

        /** Whether the object is a list (quote X). */
        boolean isQuoted(int object) {
            if (object < 0 || object >= used || cells[object] >= 0
                    || ((int) (cells[object] >>> SIDE_BITS) & SIDE) != QUOTE) {
                return false;
            }
            long rest = cells[(int) cells[object] & SIDE];
            return rest < 0 && ((int) rest & SIDE) == NIL;
        }

        int left(int node) {
            return node >= 0 && node < used && cells[node] < 0 ? (int) (cells[node] >>> SIDE_BITS) & SIDE : NIL;
        }

        int right(int node) {
            return node >= 0 && node < used && cells[node] < 0 ? (int) cells[node] & SIDE : NIL;
        }

        /** Item k of a list, from 0 on; so also term k of a call, from 1 on. */
        int item(int list, int k) {
            int at = list;
            for (int i = 0; i < k; i++) {
                at = at >= 0 && at < used && cells[at] < 0 ? (int) cells[at] & SIDE : NIL;
            }
            return at >= 0 && at < used && cells[at] < 0 ? (int) (cells[at] >>> SIDE_BITS) & SIDE : NIL;
        }

        /** How many items a list has; NONE for what is no list. */
        int lengthOf(int list) {
            int length = 0;
            int at = list;
            while (at >= 0 && at < used && cells[at] < 0) {
                at = (int) cells[at] & SIDE;
                length++;
            }
            return at == NIL ? length : NONE;
        }

        int sizeOf(int term) {
            if (term < 0 || term >= used || cells[term] >= 0
                    || ((int) (cells[term] >>> SIDE_BITS) & SIDE) == QUOTE) {
                return 1;
            }
            return 1 + sums[(int) cells[term] & SIDE];
        }

        int heightOf(int node) {
            return node >= 0 && node < used ? heights[node] : 0;
        }

        /** The natural that the object counts as. */
        long numberOf(int node) {
            return node >= 0 && node < used && cells[node] >>> 62 == 0 ? cells[node] : 0;
        }

        /** The value of a constant. */
        int valueOf(int constant) {
            if (constant < 0 || constant >= used || cells[constant] >= 0) {
                return constant;
            }
            long rest = cells[(int) cells[constant] & SIDE];
            return rest < 0 ? (int) (rest >>> SIDE_BITS) & SIDE : NIL;
        }

        /** The constant that has this value. */
        int constantOf(int value) {
            if (value <= T || isNatural(value)) {
                return value;
            }
            return made(pairCell(QUOTE, made(pairCell(value, NIL))));
        }
    }

    /** Reads a TEXT into an object, or finds its first FAULT. */
    private static final class Reader {
        private static final int OPEN_LIMIT = 40;
        private static final int WORD_LIMIT = 1000;
        private static final int SYMBOL_LIMIT = 11;
        /** What stands so far in the innermost ( or ' that is open, or in the text. */
        private static final int TOP = 0;
        private static final int EMPTY = 1;
        private static final int SOME = 2;
        private static final int DOTTED = 3;
        private static final int TAILED = 4;
        private static final int QUOTED = 5;
        private static final int WHOLE = 6;

        private final Room room;
        private final int[] phases = new int[OPEN_LIMIT + 1];
        private final int[] bases = new int[OPEN_LIMIT + 1];
        private final int[] tails = new int[OPEN_LIMIT + 1];
        private final int[] items = new int[WORD_LIMIT];
        private int depth = 0;
        private int held = 0;
        private int words = 0;
        private int whole = NIL;
        private int flaw = 0;
        private int place = NONE;

        Reader(Room room) {
            this.room = room;
        }

        int read(char[] text, int length) {
            depth = 0;
            held = 0;
            words = 0;
            whole = NIL;
            flaw = 0;
            place = NONE;
            phases[0] = TOP;
            int at = 0;
            while (at < length && at < text.length && flaw == 0) {
                int next = at + 1;
                if (text[at] == ';') {
                    next = lineEnd(text, at, length);
                } else if (text[at] != ' ' && text[at] != '\n') {
                    next = takeWord(text, at, length);
                }
                at = Math.max(at + 1, next);
            }
            if (flaw == 0 && phases[0] != WHOLE) {
                refuse(3, length);
            }
            return whole;
        }

        private void refuse(int what, int where) {
            flaw = what;
            place = where;
        }

        private int lineEnd(char[] text, int at, int length) {
            int end = at;
            while (end < length && text[end] != '\n') {
                end++;
            }
            return end;
        }

        private int atomEnd(char[] text, int at, int length) {
            int end = at;
            while (end < length && ALPHABET.indexOf(text[end]) > 0) {
                end++;
            }
            return end;
        }

        /** Takes the word that begins here, or finds its FAULT, the least number first: where it ends. */
        private int takeWord(char[] text, int at, int length) {
            char c = text[at];
            int end = atomEnd(text, at, length);
            boolean atom = end > at;
            boolean opens = c == '(' || c == '\'';
            long cell = atom ? atomCell(text, at, end) : NONE;
            if (!atom && !opens && c != ')' && c != '.') {
                refuse(1, at);
            } else if (atom && cell < 0) {
                refuse(2, at);
            } else if (!canStand(c)) {
                refuse(3, at);
            } else if (opens && depth >= OPEN_LIMIT) {
                refuse(4, at);
            } else if (words >= WORD_LIMIT) {
                refuse(5, at);
            } else {
                words++;
                if (atom) {
                    deliver(room.made(cell));
                } else {
                    takeMark(c);
                }
            }
            return end;
        }

        /** The cell of the atom's node; negative for an atom that is too long or too great. */
        private long atomCell(char[] text, int at, int end) {
            long number = 0;
            long code = 0;
            boolean digits = true;
            boolean great = false;
            for (int i = at; i < end; i++) {
                char c = text[i];
                int digit = c - '0';
                digits = digits && c >= '0' && c <= '9';
                if (digits) {
                    great = great || number > (GREATEST - digit) / 10;
                    number = great ? 0 : number * 10 + digit;
                }
                code = code * ALPHABET_BASE + ALPHABET.indexOf(c);
            }
            if (digits) {
                return great ? NONE : number;
            }
            return end - at > SYMBOL_LIMIT ? NONE : SYMBOL_BIT | code;
        }

        private boolean canStand(char c) {
            switch (phases[depth]) {
                case EMPTY:
                    return c != '.';
                case SOME:
                    return true;
                case TAILED:
                    return c == ')';
                case WHOLE:
                    return false;
                default:
                    return c != '.' && c != ')';
            }
        }

        private void takeMark(char c) {
            if (c == '.') {
                phases[depth] = DOTTED;
            } else if (c == ')' && depth > 0) {
                int list = tails[depth];
                while (held > bases[depth] && held > 0) {
                    held--;
                    list = room.made(pairCell(items[held], list));
                }
                depth--;
                deliver(list);
            } else if (c != ')' && depth < OPEN_LIMIT) {
                depth++;
                phases[depth] = c == '(' ? EMPTY : QUOTED;
                bases[depth] = held;
                tails[depth] = NIL;
            }
        }

        /** Gives an object that has ended to what it stands in. */
        private void deliver(int object) {
            int given = object;
            while (depth > 0 && phases[depth] == QUOTED) {
                given = room.made(pairCell(QUOTE, room.made(pairCell(given, NIL))));
                depth--;
            }
            if (phases[depth] == TOP) {
                whole = given;
                phases[depth] = WHOLE;
            } else if (phases[depth] == DOTTED) {
                tails[depth] = given;
                phases[depth] = TAILED;
            } else if (held < WORD_LIMIT) {
                items[held] = given;
                held++;
                phases[depth] = SOME;
            }
        }
    }

    /** Tells objects as texts, up to a limit of characters. */
    private static final class Scribe {
        private final Room room;
        private final char[] letters;
        /** What is still to be told of each list that is open. */
        private final int[] rests;
        private int length = 0;

        Scribe(Room room, int limit) {
            this.room = room;
            this.letters = new char[Math.max(1, limit)];
            this.rests = new int[Math.max(1, limit)];
        }

        void clear() {
            length = 0;
        }

        void write(int object) {
            int open = 0;
            int next = object;
            for (int turn = 0; turn < letters.length && length < letters.length && next != NONE; turn++) {
                if (room.isQuoted(next)) {
                    put('\'');
                    next = room.left(room.right(next));
                    continue;
                }
                if (room.isPair(next)) {
                    put('(');
                    rests[open] = room.right(next);
                    open++;
                    next = room.left(next);
                    continue;
                }
                putAtom(room.cellOf(next));
                next = NONE;
                while (open > 0 && next == NONE) {
                    int rest = rests[open - 1];
                    if (room.isPair(rest)) {
                        put(' ');
                        next = room.left(rest);
                        rests[open - 1] = room.right(rest);
                        continue;
                    }
                    if (rest != NIL) {
                        put(' ');
                        put('.');
                        put(' ');
                        putAtom(room.cellOf(rest));
                    }
                    put(')');
                    open--;
                }
            }
        }

        private void put(char c) {
            if (length < letters.length) {
                letters[length] = c;
                length++;
            }
        }

        private void putAtom(long cell) {
            boolean natural = cell < SYMBOL_BIT;
            int base = natural ? 10 : ALPHABET_BASE;
            long value = cell & GREATEST;
            int places = 1;
            for (long rest = value / base; rest > 0; rest /= base) {
                places++;
            }
            for (int k = places - 1; k >= 0; k--) {
                int digit = (int) (value % base);
                value /= base;
                if (length + k < letters.length) {
                    letters[length + k] = natural ? (char) ('0' + digit) : ALPHABET.charAt(digit);
                }
            }
            length = Math.min(letters.length, length + places);
        }
    }

    /** What was taken: functions, theorems with their RULES, and the order in which they came. */
    private static final class Book {
        private static final int ENTRY_LIMIT = FUNCTION_LIMIT + THEOREM_LIMIT;
        private static final int HYPOTHESIS_LIMIT = 60;
        private static final int[] BASE_ARITIES = {3, 2, 2, 2, 2, 2, 2, 1, 1, 1, 1, 1, 1, 1};
        private static final int FUNCTION_KIND = 1;
        private static final int PROVED_KIND = 2;
        private static final int CHECKED_KIND = 3;

        private final int[] functionNames = new int[FUNCTION_LIMIT];
        private final int[] parameters = new int[FUNCTION_LIMIT];
        private final int[] arities = new int[FUNCTION_LIMIT];
        private final int[] bodies = new int[FUNCTION_LIMIT];
        /** NONE for a function without calls of itself. */
        private final int[] measures = new int[FUNCTION_LIMIT];
        private int functions = 0;

        private final int[] theoremNames = new int[THEOREM_LIMIT];
        private final int[] formulas = new int[THEOREM_LIMIT];
        /** The left sides of the RULES; NONE for a theorem that has none. */
        private final int[] lefts = new int[THEOREM_LIMIT];
        private final int[] rights = new int[THEOREM_LIMIT];
        private final int[][] hypotheses = new int[THEOREM_LIMIT][HYPOTHESIS_LIMIT];
        private final int[] hypothesisCounts = new int[THEOREM_LIMIT];
        private final boolean[] truthAlone = new boolean[THEOREM_LIMIT];
        /** Whether the right side is the left one with variables for variables. */
        private final boolean[] turning = new boolean[THEOREM_LIMIT];
        private final boolean[] on = new boolean[THEOREM_LIMIT];
        /** Turned off by a HINT, for one command. */
        private final boolean[] muted = new boolean[THEOREM_LIMIT];
        private int theorems = 0;

        private final int[] kinds = new int[ENTRY_LIMIT];
        /** How much of the room was kept before this one was taken. */
        private final int[] marks = new int[ENTRY_LIMIT];
        private int entries = 0;
        private int kept;

        Book(int kept) {
            this.kept = kept;
        }

        int functionOf(int name) {
            for (int k = 0; k < functions; k++) {
                if (functionNames[k] == name) {
                    return k;
                }
            }
            return NONE;
        }

        int theoremOf(int name) {
            for (int k = 0; k < theorems; k++) {
                if (theoremNames[k] == name) {
                    return k;
                }
            }
            return NONE;
        }

        /** How many terms a function takes; NONE for what is no function. */
        int arityOf(int name) {
            if (name >= IF && name <= NOT) {
                return BASE_ARITIES[name - IF];
            }
            for (int k = 0; k < functions; k++) {
                if (functionNames[k] == name) {
                    return arities[k];
                }
            }
            return NONE;
        }

        boolean canLook(int theorem, int goal) {
            return lefts[theorem] != NONE && on[theorem] && !muted[theorem] && (goal == TRUTH || !truthAlone[theorem]);
        }

        int rules(boolean onesThatAreOn) {
            int rules = 0;
            for (int k = 0; k < theorems; k++) {
                rules += lefts[k] != NONE && (on[k] || !onesThatAreOn) ? 1 : 0;
            }
            return rules;
        }

        void muteNone() {
            for (int k = 0; k < THEOREM_LIMIT; k++) {
                muted[k] = false;
            }
        }

        void addFunction(int name, int names, int arity, int body, int measure) {
            if (functions < FUNCTION_LIMIT) {
                functionNames[functions] = name;
                parameters[functions] = names;
                arities[functions] = arity;
                bodies[functions] = body;
                measures[functions] = measure;
                functions++;
            }
        }

        void addTheorem(int name, int formula) {
            if (theorems < THEOREM_LIMIT) {
                theoremNames[theorems] = name;
                formulas[theorems] = formula;
                lefts[theorems] = NONE;
                on[theorems] = false;
                theorems++;
            }
        }

        /** Enters what was just added; the room is kept up to the mark from then on. */
        void enter(int kind, int mark) {
            if (entries < ENTRY_LIMIT) {
                kinds[entries] = kind;
                marks[entries] = kept;
                entries++;
                kept = mark;
            }
        }

        void takeBack() {
            if (entries > 0) {
                entries--;
                kept = marks[entries];
                if (kinds[entries] == FUNCTION_KIND) {
                    functions--;
                } else {
                    theorems--;
                }
            }
        }

        /** Which function or theorem the entry is: as many as there are of its sort ahead of it. */
        int placeOf(int entry) {
            int place = 0;
            for (int k = 0; k < entry && k < entries; k++) {
                place += (kinds[k] == FUNCTION_KIND) == (kinds[entry] == FUNCTION_KIND) ? 1 : 0;
            }
            return place;
        }
    }

    /** Terms: read from objects, made of one another, matched and looked through. */
    private static final class Terms {
        private static final int GO_IN = -2;
        private static final int BINDING_LIMIT = 256;
        private static final int PART_LIMIT = 128;

        private final Room room;
        private final Book book;
        /** The function that a defun is about to make; its name counts as a function of so many terms. */
        private int ownName = NONE;
        private int ownArity = NONE;
        private final int[] variables = new int[BINDING_LIMIT];
        private final int[] meanings = new int[BINDING_LIMIT];
        private int bound = 0;
        private int replaced = NONE;
        private int replacement = NONE;
        /** The calls that rebuilt() is in: name, terms to come, where its values begin. */
        private final int[] names = new int[PART_LIMIT];
        private final int[] rests = new int[PART_LIMIT];
        private final int[] bases = new int[PART_LIMIT];
        private final int[] values = new int[PART_LIMIT * PARAMETER_LIMIT];
        private final int[] waiting = new int[PART_LIMIT];
        private final int[] targets = new int[PART_LIMIT];
        private final int[] parts = new int[PART_LIMIT];

        Terms(Room room, Book book) {
            this.room = room;
            this.book = book;
        }

        /** NONE when it is no term (READ), or TOO BIG. */
        int rebuilt(int term, int way) {
            int depth = 0;
            int held = 0;
            int next = term;
            for (int turn = 0; turn < MANY; turn++) {
                int meaning = way == READ ? readMeaning(next) : meaningOf(next, way);
                if (meaning == NONE || depth >= PART_LIMIT || held >= values.length) {
                    return NONE;
                }
                if (meaning == GO_IN) {
                    names[depth] = room.left(next);
                    rests[depth] = room.right(next);
                    bases[depth] = held;
                    depth++;
                } else {
                    values[held] = meaning;
                    held++;
                }
                while (depth > 0 && !room.isPair(rests[depth - 1])) {
                    depth--;
                    int list = NIL;
                    while (held > bases[depth]) {
                        held--;
                        list = room.made(pairCell(values[held], list));
                    }
                    values[held] = room.made(pairCell(names[depth], list));
                    if (isTooBig(values[held], way)) {
                        return NONE;
                    }
                    held++;
                }
                if (depth == 0) {
                    return values[0];
                }
                next = room.left(rests[depth - 1]);
                rests[depth - 1] = room.right(rests[depth - 1]);
            }
            return NONE;
        }

        private boolean isTooBig(int term, int way) {
            boolean big = room.sizeOf(term) > SIZE_LIMIT;
            if (big && way != READ) {
                room.blame(TOO_BIG);
            }
            return big;
        }

        /** What a term becomes as a whole; GO_IN for a call of which the terms are rebuilt. */
        private int meaningOf(int term, int way) {
            if (way == REPLACE && term == replaced) {
                return replacement;
            }
            if (room.isCall(term)) {
                return GO_IN;
            }
            if (way == FILL && room.isVariable(term)) {
                int meaning = standsFor(term);
                return meaning == NONE ? term : meaning;
            }
            return term;
        }

        /** What an object is as a term; GO_IN for a call, NONE for what is no term. */
        private int readMeaning(int object) {
            if (!room.isPair(object)) {
                return object;
            }
            int head = room.left(object);
            if (head == QUOTE) {
                int value = room.valueOf(object);
                boolean bare = value <= T || room.isNatural(value);
                return !room.isQuoted(object) ? NONE : bare ? value : object;
            }
            int arity = head == ownName ? ownArity : book.arityOf(head);
            return arity != NONE && room.lengthOf(room.right(object)) == arity ? GO_IN : NONE;
        }

        private int standsFor(int variable) {
            for (int k = 0; k < bound; k++) {
                if (variables[k] == variable) {
                    return meanings[k];
                }
            }
            return NONE;
        }

        void unbind() {
            bound = 0;
        }

        void bind(int variable, int meaning) {
            if (bound < BINDING_LIMIT) {
                variables[bound] = variable;
                meanings[bound] = meaning;
                bound++;
            }
        }

        /** Binds the names of a list to the items of another one. */
        void bindRow(int names, int items) {
            bound = 0;
            int item = items;
            for (int name = names; room.isPair(name); name = room.right(name)) {
                bind(room.left(name), room.left(item));
                item = room.right(item);
            }
        }

        boolean areDifferentVariables(int list) {
            for (int rest = list; room.isPair(rest); rest = room.right(rest)) {
                if (!room.isVariable(room.left(rest))) {
                    return false;
                }
                for (int later = room.right(rest); room.isPair(later); later = room.right(later)) {
                    if (room.left(later) == room.left(rest)) {
                        return false;
                    }
                }
            }
            return true;
        }

        /** Binds as a list of (x T) tells: whether each is so, the x different variables. */
        boolean bindPairs(int pairs) {
            bound = 0;
            for (int rest = pairs; room.isPair(rest); rest = room.right(rest)) {
                int pair = room.left(rest);
                int variable = room.left(pair);
                int meaning = room.lengthOf(pair) == 2 ? rebuilt(room.item(pair, 1), READ) : NONE;
                if (meaning == NONE || !room.isVariable(variable) || standsFor(variable) != NONE) {
                    return false;
                }
                bind(variable, meaning);
            }
            return true;
        }

        /** The call of the name and these terms; NONE stands for one that it doesn't take. */
        int call(int name, int first, int second, int third) {
            int list = third == NONE ? NIL : room.made(pairCell(third, NIL));
            list = second == NONE ? list : room.made(pairCell(second, list));
            int made = room.made(pairCell(name, room.made(pairCell(first, list))));
            if (room.sizeOf(made) > SIZE_LIMIT) {
                room.blame(TOO_BIG);
                return NONE;
            }
            return made;
        }

        /** NOT X. */
        int negated(int term) {
            if (room.isCallOf(term, NOT)) {
                return room.item(term, 1);
            }
            if (room.isConstant(term)) {
                return term == NIL ? T : NIL;
            }
            return call(NOT, term, NONE, NONE);
        }

        /** Whether the other one is NOT the term; it is asked without making that, which may be TOO BIG. */
        boolean isNegation(int other, int term) {
            if (room.isCallOf(term, NOT)) {
                return other == room.item(term, 1);
            }
            if (room.isConstant(term)) {
                return other == (term == NIL ? T : NIL);
            }
            return room.isCallOf(other, NOT) && room.item(other, 1) == term;
        }

        boolean isBoolean(int term) {
            switch (room.isCall(term) ? room.left(term) : NONE) {
                case EQUAL:
                case IMPLIES:
                case LESS:
                case CONSP:
                case NATP:
                case SYMBOLP:
                case NOT:
                    return true;
                default:
                    return term == NIL || term == T;
            }
        }

        /** Whether the call's terms are all constants. */
        boolean isOfConstants(int call) {
            for (int rest = room.right(call); room.isPair(rest); rest = room.right(rest)) {
                if (!room.isConstant(room.left(rest))) {
                    return false;
                }
            }
            return true;
        }

        /** Whether the target is the pattern with terms for its variables, which are bound to them then. */
        boolean matches(int pattern, int target) {
            bound = 0;
            waiting[0] = pattern;
            targets[0] = target;
            int left = 1;
            for (int turn = 0; turn < MANY && left > 0; turn++) {
                left--;
                int mine = waiting[left];
                int other = targets[left];
                if (room.isVariable(mine)) {
                    int known = standsFor(mine);
                    if (known == NONE) {
                        bind(mine, other);
                    } else if (known != other) {
                        return false;
                    }
                } else if (!room.isCall(mine)) {
                    if (mine != other) {
                        return false;
                    }
                } else if (!room.isCallOf(other, room.left(mine))) {
                    return false;
                } else {
                    int item = room.right(other);
                    for (int rest = room.right(mine); room.isPair(rest) && left < PART_LIMIT; rest = room.right(rest)) {
                        waiting[left] = room.left(rest);
                        targets[left] = room.left(item);
                        item = room.right(item);
                        left++;
                    }
                }
            }
            return true;
        }

        /** Whether the terms bound are variables, no two alike. */
        boolean isBoundToVariables() {
            for (int k = 0; k < bound; k++) {
                if (!room.isVariable(meanings[k])) {
                    return false;
                }
                for (int j = 0; j < k; j++) {
                    if (meanings[j] == meanings[k]) {
                        return false;
                    }
                }
            }
            return true;
        }

        /** Lists the term and all terms in it, each as often as it stands, from the left: how many. */
        int listParts(int term) {
            waiting[0] = term;
            int left = 1;
            int count = 0;
            while (left > 0 && count < PART_LIMIT) {
                left--;
                int part = waiting[left];
                parts[count] = part;
                count++;
                int width = room.isCall(part) ? room.lengthOf(room.right(part)) : 0;
                for (int k = width; k >= 1 && left < PART_LIMIT; k--) {
                    waiting[left] = room.item(part, k);
                    left++;
                }
            }
            return count;
        }

        boolean hasCallOf(int term, int name) {
            int count = listParts(term);
            for (int k = 0; k < count; k++) {
                if (room.isCallOf(parts[k], name)) {
                    return true;
                }
            }
            return false;
        }

        /** Whether all variables of the term stand in the list of them. */
        boolean hasVariablesOf(int term, int list) {
            int count = listParts(term);
            for (int k = 0; k < count; k++) {
                boolean found = !room.isVariable(parts[k]);
                for (int rest = list; room.isPair(rest) && !found; rest = room.right(rest)) {
                    found = room.left(rest) == parts[k];
                }
                if (!found) {
                    return false;
                }
            }
            return true;
        }

        /** Whether all variables that are bound stand in the term. */
        boolean hasBound(int term) {
            int count = listParts(term);
            int found = 0;
            for (int k = 0; k < bound; k++) {
                boolean here = false;
                for (int j = 0; j < count && !here; j++) {
                    here = parts[j] == variables[k];
                }
                found += here ? 1 : 0;
            }
            return found == bound;
        }

        /** Binds each variable of the term to itself. */
        void bindVariablesOf(int term) {
            bound = 0;
            int count = listParts(term);
            for (int k = 0; k < count; k++) {
                if (room.isVariable(parts[k]) && standsFor(parts[k]) == NONE) {
                    bind(parts[k], parts[k]);
                }
            }
        }

        /** Puts a literal behind those of a clause. */
        void join(Clause clause, int literal) {
            if (literal != NONE && !clause.insert(clause.length, literal, room.sizeOf(literal))) {
                room.blame(TOO_BIG);
            }
        }
    }

    /** Evaluates terms, with the calls that are not ended in rows of its own. */
    private static final class Evaluator {
        private static final int CALL_LIMIT = 300;
        /** Why there is no value: more STEPS than the caller gives. */
        private static final int TOO_LONG = 5;

        private final Room room;
        private final Book book;
        private final int[] names = new int[CALL_LIMIT];
        private final int[] rests = new int[CALL_LIMIT];
        private final int[] bases = new int[CALL_LIMIT];
        /** Whether all that is still to come of the call is the value of its body, or of its chosen term. */
        private final boolean[] inBody = new boolean[CALL_LIMIT];
        private final int[] outerOwners = new int[CALL_LIMIT];
        private final int[] outerFloors = new int[CALL_LIMIT];
        /** Each call holds fewer than it takes; the rest is for reading three at once behind the last. */
        private final int[] values = new int[CALL_LIMIT * PARAMETER_LIMIT + 3];
        private int depth = 0;
        private int held = 0;
        /** The function whose body is evaluated, and where the values of its parameters begin. */
        private int owner = NONE;
        private int floor = 0;
        private int stepsLeft = 0;
        private int stopped = 0;

        Evaluator(Room room, Book book) {
            this.room = room;
            this.book = book;
        }

        /** The value, made in at most so many STEPS; NONE without one, and why in stopped. */
        int evaluated(int term, int most) {
            depth = 0;
            held = 0;
            owner = NONE;
            floor = 0;
            stepsLeft = most;
            stopped = 0;
            int next = term;
            for (int turn = 0; turn < MANY && stopped == 0; turn++) {
                if (next != NONE) {
                    if (room.isCall(next)) {
                        begin(next);
                    } else {
                        hold(room.isVariable(next) ? parameterValue(next) : room.valueOf(next));
                    }
                    next = NONE;
                } else if (depth == 0) {
                    return values[0];
                } else if (isReady(depth - 1)) {
                    int base = bases[depth - 1];
                    int value = baseValue(names[depth - 1], values[base], values[base + 1], values[base + 2]);
                    stopped = value == NONE ? TOO_GREAT : 0;
                    close(value);
                } else {
                    next = goOn(depth - 1);
                }
            }
            return NONE;
        }

        private boolean isReady(int call) {
            return !inBody[call] && names[call] <= NOT && !room.isPair(rests[call]);
        }

        private void begin(int term) {
            if (depth >= CALL_LIMIT) {
                stopped = TOO_DEEP;
            } else if (stepsLeft == 0) {
                stopped = TOO_LONG;
            } else if (!room.step()) {
                stopped = OUT_OF_FUEL;
            } else {
                stepsLeft--;
                names[depth] = room.left(term);
                rests[depth] = room.right(term);
                bases[depth] = held;
                inBody[depth] = false;
                outerOwners[depth] = owner;
                outerFloors[depth] = floor;
                depth++;
            }
        }

        private void hold(int value) {
            if (held < values.length) {
                values[held] = value;
                held++;
            }
        }

        private int parameterValue(int variable) {
            int place = floor;
            int list = owner == NONE ? NIL : book.parameters[owner];
            for (int rest = list; room.isPair(rest) && place < held; rest = room.right(rest)) {
                if (room.left(rest) == variable) {
                    return values[place];
                }
                place++;
            }
            return NIL;
        }

        /** The next term to be evaluated for the call; NONE when the call has ended. */
        private int goOn(int call) {
            if (inBody[call]) {
                close(held > 0 ? values[held - 1] : NIL);
                return NONE;
            }
            int rest = rests[call];
            if (!room.isPair(rest)) {
                inBody[call] = true;
                owner = book.functionOf(names[call]);
                floor = bases[call];
                return owner == NONE ? NIL : book.bodies[owner];
            }
            if (names[call] == IF && held > bases[call]) {
                held = bases[call];
                inBody[call] = true;
                return values[held] != NIL ? room.left(rest) : room.left(room.right(rest));
            }
            rests[call] = room.right(rest);
            return room.left(rest);
        }

        /** Ends the innermost call, whose value this is. */
        private void close(int value) {
            depth--;
            held = bases[depth];
            values[held] = value;
            held++;
            owner = outerOwners[depth];
            floor = outerFloors[depth];
        }

        /** The value of a BASE function; NONE for a sum that is TOO GREAT. */
        int baseValue(int name, int first, int second, int third) {
            switch (name) {
                case IF:
                    return first != NIL ? second : third;
                case EQUAL:
                    return first == second ? T : NIL;
                case CONS:
                    return room.made(pairCell(first, second));
                case IMPLIES:
                    return first != NIL && second == NIL ? NIL : T;
                case PLUS:
                    long sum = room.numberOf(first) + room.numberOf(second);
                    return sum > GREATEST ? NONE : room.made(sum);
                case MINUS:
                    long rest = room.numberOf(first) - room.numberOf(second);
                    return room.made(rest < 0 ? 0 : rest);
                case LESS:
                    return room.numberOf(first) < room.numberOf(second) ? T : NIL;
                case CONSP:
                    return room.isPair(first) ? T : NIL;
                case CAR:
                    return room.left(first);
                case CDR:
                    return room.right(first);
                case NATP:
                    return room.isNatural(first) ? T : NIL;
                case SYMBOLP:
                    return room.isSymbol(first) ? T : NIL;
                case HEIGHT:
                    return room.made(room.heightOf(first));
                default:
                    return first == NIL ? T : NIL;
            }
        }
    }

    /** A row of different terms, of which one at least isn't nil. */
    private static final class Clause {
        private static final int LITERAL_LIMIT = 30;
        private static final int WEIGHT_LIMIT = 400;

        private final int[] literals = new int[LITERAL_LIMIT];
        private int length = 0;
        /** The SIZES of the literals together. */
        private int weight = 0;
        private int rounds = 0;

        void clear() {
            length = 0;
            weight = 0;
            rounds = 0;
        }

        void copy(Clause other) {
            System.arraycopy(other.literals, 0, literals, 0, LITERAL_LIMIT);
            length = other.length;
            weight = other.weight;
            rounds = other.rounds;
        }

        int placeOf(int literal) {
            for (int k = 0; k < length; k++) {
                if (literals[k] == literal) {
                    return k;
                }
            }
            return NONE;
        }

        /** Puts a literal in at a place, unless it is there already: whether the clause isn't TOO BIG then. */
        boolean insert(int place, int literal, int size) {
            for (int k = 0; k < length; k++) {
                if (literals[k] == literal) {
                    return true;
                }
            }
            if (place < 0 || place > length || length >= LITERAL_LIMIT) {
                return false;
            }
            for (int k = length; k > place; k--) {
                literals[k] = literals[k - 1];
            }
            literals[place] = literal;
            length++;
            weight += size;
            return weight <= WEIGHT_LIMIT;
        }

        boolean isTooBig() {
            return weight > WEIGHT_LIMIT;
        }

        void remove(int place, int size) {
            if (place < 0 || place >= length) {
                return;
            }
            for (int k = place + 1; k < length; k++) {
                literals[k - 1] = literals[k];
            }
            length--;
            weight -= size;
        }
    }

    /**
     * REWRITES terms. The terms that are not ended are frames in rows of its own; each frame goes from stage to stage,
     * asks for other terms and goes on with what came out. Each STEP is noted, so that it can be asked again by itself,
     * with the answers of the notes below it.
     */
    private static final class Rewriter {
        private static final int FRAME_LIMIT = 60;
        private static final int EVALUATION_LIMIT = 100;
        private static final int COMPARED = 200;

        /** Places in a frame; those up to ROW are places in a note, too. */
        private static final int TERM = 0;
        private static final int GOAL = 1;
        private static final int ROW = 2;
        private static final int STAGE = 3;
        private static final int NOTE = 4;
        /** Of if: what came out of its first term. Of other calls: U. */
        private static final int MAIN = 5;
        /** Of if: the term that is rewritten last. Of other calls: the terms to come. */
        private static final int REST = 6;
        private static final int THEN_OUT = 7;
        private static final int RULE = 8;
        private static final int HYPOTHESIS = 9;
        private static final int COUNT = 10;
        private static final int OUTS = 11;
        private static final int FRAME_WIDTH = OUTS + PARAMETER_LIMIT;
        private static final int NOTE_OUT = 3;
        private static final int NOTE_END = 4;
        private static final int NOTE_WIDTH = 5;

        private static final int START = 0;
        private static final int PASS = 1;
        private static final int TEST = 2;
        private static final int THEN = 3;
        private static final int ELSE = 4;
        private static final int NEGATE = 5;
        private static final int GATHER = 6;
        private static final int COMPUTE = 7;
        private static final int REDUCE_EQUAL = 8;
        private static final int REDUCE_LESS = 9;
        private static final int REDUCE_OTHER = 10;
        private static final int LOOK_UP = 11;
        private static final int SEEK = 12;
        private static final int COMPARE = 13;
        private static final int APPLY = 14;
        private static final int JUDGE = 15;
        private static final int UNFOLD = 16;
        private static final int CHOOSE = 17;

        private final Room room;
        private final Book book;
        private final Terms terms;
        private final Evaluator evaluator;
        private final Scribe mine;
        private final Scribe other;
        private final int[][] frames = new int[FRAME_LIMIT][FRAME_WIDTH];
        private int depth = 0;
        /** What came out of the term that ended last. */
        private int answer = NONE;
        /** How many theorems there were when the work began: one taken by it has no part in it. */
        private int horizon = 0;
        private final int[][] notes = new int[FUEL_LIMIT][NOTE_WIDTH];
        private int noted = 0;
        private boolean checking = false;
        private int nextNote = 0;

        Rewriter(Room room, Book book, Terms terms, Evaluator evaluator) {
            this.room = room;
            this.book = book;
            this.terms = terms;
            this.evaluator = evaluator;
            this.mine = new Scribe(room, COMPARED);
            this.other = new Scribe(room, COMPARED);
        }

        void begin() {
            noted = 0;
            horizon = book.theorems;
        }

        /** What comes out of the term; NONE with a FAULT OF WORK. */
        int rewritten(int term, int goal, int row) {
            depth = 0;
            answer = NONE;
            ask(term, goal, row);
            for (int turn = 0; turn < MANY && depth > 0 && room.trouble == 0; turn++) {
                int[] frame = frames[depth - 1];
                switch (frame[STAGE]) {
                    case START: start(frame); break;
                    case TEST: goOnWithTest(frame); break;
                    case THEN: goOnWithThen(frame); break;
                    case ELSE: finish(choice(frame[MAIN], frame[THEN_OUT], answer, frame[GOAL])); break;
                    case NEGATE: goOnWithNegation(frame); break;
                    case GATHER: gather(frame); break;
                    case COMPUTE: compute(frame); break;
                    case REDUCE_EQUAL: reduceEqual(frame, room.item(frame[MAIN], 1), room.item(frame[MAIN], 2)); break;
                    case REDUCE_LESS: reduceLess(frame, room.item(frame[MAIN], 1), room.item(frame[MAIN], 2)); break;
                    case REDUCE_OTHER: reduceOther(frame, room.left(frame[MAIN]), room.item(frame[MAIN], 1)); break;
                    case LOOK_UP: lookUp(frame); break;
                    case SEEK: seek(frame); break;
                    case COMPARE: compare(frame); break;
                    case APPLY: apply(frame); break;
                    case JUDGE: judge(frame); break;
                    case UNFOLD: unfold(frame); break;
                    case CHOOSE: chooseBranch(frame); break;
                    default: finish(answer); break;
                }
            }
            return room.trouble == 0 ? answer : NONE;
        }

        /** Begins a term within those that are not ended; within a note that is asked, the note below answers. */
        private void ask(int term, int goal, int row) {
            if (checking && depth > 0) {
                answer = recalled(term, goal, row);
                if (answer == NONE) {
                    room.blame(TOO_BIG);
                }
            } else if (depth >= FRAME_LIMIT) {
                room.blame(TOO_DEEP);
            } else if (checking || room.step()) {
                int[] frame = frames[depth];
                frame[TERM] = term;
                frame[GOAL] = goal;
                frame[ROW] = row;
                frame[STAGE] = START;
                frame[NOTE] = noted;
                depth++;
                if (!checking && noted < notes.length) {
                    System.arraycopy(frame, 0, notes[noted], 0, STAGE);
                    noted++;
                }
            }
        }

        /** What the next note says that came out of this; NONE when it is about something else. */
        int recalled(int term, int goal, int row) {
            if (nextNote < 0 || nextNote >= noted) {
                return NONE;
            }
            int[] note = notes[nextNote];
            if (note[TERM] != term || note[GOAL] != goal || note[ROW] != row) {
                return NONE;
            }
            nextNote = note[NOTE_END];
            return note[NOTE_OUT];
        }

        /** Ends the innermost term. */
        private void finish(int out) {
            depth--;
            int[] frame = frames[depth];
            boolean holds = frame[GOAL] == TRUTH && room.isConstant(out) && out != NIL;
            answer = holds ? T : out;
            if (!checking && frame[NOTE] < notes.length) {
                notes[frame[NOTE]][NOTE_OUT] = answer;
                notes[frame[NOTE]][NOTE_END] = noted;
            }
        }

        private void askInstead(int[] frame, int term) {
            frame[STAGE] = PASS;
            if (room.trouble == 0) {
                ask(term, frame[GOAL], frame[ROW]);
            }
        }

        private void start(int[] frame) {
            int term = frame[TERM];
            if (room.isConstant(term)) {
                finish(term);
            } else if (!room.isCall(term)) {
                finish(lookedUp(term, frame[GOAL], frame[ROW]));
            } else if (room.isCallOf(term, IF)) {
                frame[STAGE] = TEST;
                ask(room.item(term, 1), TRUTH, frame[ROW]);
            } else if (room.isCallOf(term, IMPLIES)) {
                int inner = terms.call(IF, room.item(term, 2), T, NIL);
                askInstead(frame, terms.call(IF, room.item(term, 1), inner, T));
            } else if (room.isCallOf(term, NOT)) {
                frame[STAGE] = NEGATE;
                ask(room.item(term, 1), TRUTH, frame[ROW]);
            } else {
                frame[REST] = room.right(term);
                frame[COUNT] = NONE;
                frame[STAGE] = GATHER;
            }
        }

        private void goOnWithTest(int[] frame) {
            int yes = room.item(frame[TERM], 2);
            int no = room.item(frame[TERM], 3);
            if (room.isConstant(answer)) {
                askInstead(frame, answer != NIL ? yes : no);
                return;
            }
            boolean exchanged = room.isCallOf(answer, NOT);
            frame[MAIN] = exchanged ? room.item(answer, 1) : answer;
            frame[REST] = exchanged ? yes : no;
            frame[STAGE] = THEN;
            ask(exchanged ? no : yes, frame[GOAL], room.made(pairCell(frame[MAIN], frame[ROW])));
        }

        private void goOnWithThen(int[] frame) {
            frame[THEN_OUT] = answer;
            frame[STAGE] = ELSE;
            int negation = terms.negated(frame[MAIN]);
            if (room.trouble == 0) {
                ask(frame[REST], frame[GOAL], room.made(pairCell(negation, frame[ROW])));
            }
        }

        private int choice(int test, int yes, int no, int goal) {
            if (yes == no) {
                return yes;
            }
            if (yes == T && no == NIL && (goal == TRUTH || terms.isBoolean(test))) {
                return test;
            }
            if (yes == NIL && no == T) {
                return terms.call(NOT, test, NONE, NONE);
            }
            return terms.call(IF, test, yes, no);
        }

        private void goOnWithNegation(int[] frame) {
            boolean twice = room.isCallOf(answer, NOT) && frame[GOAL] == VALUE
                    && !terms.isBoolean(room.item(answer, 1));
            int out = twice ? terms.call(NOT, answer, NONE, NONE) : terms.negated(answer);
            finish(room.isConstant(out) ? out : lookedUp(out, frame[GOAL], frame[ROW]));
        }

        private int lookedUp(int term, int goal, int row) {
            boolean here = false;
            boolean negated = false;
            int constant = NONE;
            // The row's last term is its first item, so the constant found last is the document's first.
            for (int rest = row; room.isPair(rest); rest = room.right(rest)) {
                int item = room.left(rest);
                int first = room.item(item, 1);
                here = here || item == term;
                if (room.isCallOf(item, NOT)) {
                    negated = negated || first == term;
                } else if (room.isCallOf(item, EQUAL)) {
                    int second = room.item(item, 2);
                    if (first == term && room.isConstant(second)) {
                        constant = second;
                    } else if (second == term && room.isConstant(first)) {
                        constant = first;
                    }
                }
            }
            if (here && (goal == TRUTH || terms.isBoolean(term))) {
                return T;
            }
            return negated ? NIL : constant != NONE ? constant : term;
        }

        /** Keeps what came out of a term of the call, and asks for the next one, or makes U. */
        private void gather(int[] frame) {
            if (frame[COUNT] >= 0 && frame[COUNT] < PARAMETER_LIMIT) {
                frame[OUTS + frame[COUNT]] = answer;
            }
            frame[COUNT]++;
            int rest = frame[REST];
            if (room.isPair(rest)) {
                frame[REST] = room.right(rest);
                ask(room.left(rest), VALUE, frame[ROW]);
                return;
            }
            int list = NIL;
            for (int k = Math.min(frame[COUNT], PARAMETER_LIMIT) - 1; k >= 0; k--) {
                list = room.made(pairCell(frame[OUTS + k], list));
            }
            frame[MAIN] = room.made(pairCell(room.left(frame[TERM]), list));
            frame[STAGE] = COMPUTE;
            if (room.sizeOf(frame[MAIN]) > SIZE_LIMIT) {
                room.blame(TOO_BIG);
            }
        }

        private void compute(int[] frame) {
            int call = frame[MAIN];
            int name = room.left(call);
            frame[STAGE] = name == EQUAL ? REDUCE_EQUAL : name == LESS ? REDUCE_LESS : REDUCE_OTHER;
            if (!terms.isOfConstants(call)) {
                return;
            }
            int value;
            if (name <= NOT) {
                int first = room.valueOf(room.item(call, 1));
                value = evaluator.baseValue(name, first, room.valueOf(room.item(call, 2)), NIL);
            } else {
                value = evaluator.evaluated(call, EVALUATION_LIMIT);
            }
            if (value != NONE) {
                finish(room.constantOf(value));
            }
        }

        private void reduceEqual(int[] frame, int first, int second) {
            boolean firstPair = room.isCallOf(first, CONS);
            boolean secondPair = room.isCallOf(second, CONS);
            int one = firstPair ? second : first;
            if (first == second) {
                finish(T);
            } else if (firstPair && secondPair) {
                int lefts = terms.call(EQUAL, room.item(first, 1), room.item(second, 1), NONE);
                int rights = terms.call(EQUAL, room.item(first, 2), room.item(second, 2), NONE);
                askInstead(frame, terms.call(IF, lefts, rights, NIL));
            } else if ((firstPair || secondPair) && room.isConstant(one) && !room.isPair(room.valueOf(one))) {
                finish(NIL);
            } else {
                frame[STAGE] = LOOK_UP;
            }
        }

        private void reduceLess(int[] frame, int first, int second) {
            int inner = room.item(first, 1);
            int whole = room.item(second, 1);
            boolean side = room.isCallOf(inner, CAR) || room.isCallOf(inner, CDR);
            boolean heights = room.isCallOf(first, HEIGHT) && room.isCallOf(second, HEIGHT);
            if (first == second || room.isNatural(second) && room.numberOf(second) == 0) {
                finish(NIL);
            } else if (heights && side && room.item(inner, 1) == whole) {
                askInstead(frame, terms.call(CONSP, whole, NONE, NONE));
            } else if (room.isCallOf(first, MINUS) && inner == second && room.numberOf(room.item(first, 2)) > 0) {
                askInstead(frame, terms.call(LESS, room.made(0), second, NONE));
            } else {
                frame[STAGE] = LOOK_UP;
            }
        }

        private void reduceOther(int[] frame, int name, int first) {
            boolean pair = room.isCallOf(first, CONS);
            boolean number = room.isCallOf(first, PLUS) || room.isCallOf(first, MINUS) || room.isCallOf(first, HEIGHT);
            boolean asksKind = name == CONSP || name == NATP || name == SYMBOLP;
            if (pair && (name == CAR || name == CDR)) {
                finish(room.item(first, name == CAR ? 1 : 2));
            } else if (asksKind && (pair || number)) {
                finish(name == (pair ? CONSP : NATP) ? T : NIL);
            } else {
                frame[STAGE] = LOOK_UP;
            }
        }

        private void lookUp(int[] frame) {
            int found = lookedUp(frame[MAIN], frame[GOAL], frame[ROW]);
            if (found != frame[MAIN]) {
                finish(found);
            } else {
                frame[STAGE] = SEEK;
                frame[RULE] = horizon - 1;
            }
        }

        /** Looks for the latest RULE that MATCHES, from the frame's on. */
        private void seek(int[] frame) {
            for (int k = frame[RULE]; k >= 0 && room.trouble == 0; k--) {
                if (book.canLook(k, frame[GOAL]) && terms.matches(book.lefts[k], frame[MAIN]) && room.step()) {
                    frame[RULE] = k;
                    frame[HYPOTHESIS] = 0;
                    frame[STAGE] = book.turning[k] ? COMPARE : APPLY;
                    return;
                }
            }
            frame[STAGE] = UNFOLD;
        }

        /** Goes on with a RULE that turns variables round only if that makes the call SMALLER. */
        private void compare(int[] frame) {
            terms.matches(book.lefts[frame[RULE]], frame[MAIN]);
            mine.clear();
            mine.write(terms.rebuilt(book.rights[frame[RULE]], FILL));
            other.clear();
            other.write(frame[MAIN]);
            int at = 0;
            while (at < mine.length && at < other.length && mine.letters[at] == other.letters[at]) {
                at++;
            }
            int letter = at < mine.length ? mine.letters[at] : NONE;
            int otherLetter = at < other.length ? other.letters[at] : NONE;
            frame[STAGE] = letter < otherLetter ? APPLY : SEEK;
            frame[RULE] -= letter < otherLetter ? 0 : 1;
        }

        /** Asks for the next HYPOTHESIS of the RULE, or, behind the last one, for its right side. */
        private void apply(int[] frame) {
            int rule = frame[RULE];
            // The HYPOTHESES asked before may have bound other variables.
            terms.matches(book.lefts[rule], frame[MAIN]);
            if (frame[HYPOTHESIS] >= book.hypothesisCounts[rule]) {
                askInstead(frame, terms.rebuilt(book.rights[rule], FILL));
                return;
            }
            frame[STAGE] = JUDGE;
            int hypothesis = terms.rebuilt(book.hypotheses[rule][frame[HYPOTHESIS]], FILL);
            if (room.trouble == 0) {
                ask(hypothesis, TRUTH, frame[ROW]);
            }
        }

        private void judge(int[] frame) {
            if (answer == T) {
                frame[HYPOTHESIS]++;
                frame[STAGE] = APPLY;
            } else {
                frame[RULE]--;
                frame[STAGE] = SEEK;
            }
        }

        private void unfold(int[] frame) {
            int function = book.functionOf(room.left(frame[MAIN]));
            if (function == NONE) {
                finish(frame[MAIN]);
                return;
            }
            int body = book.bodies[function];
            boolean plain = book.measures[function] == NONE;
            if (!plain && !room.isCallOf(body, IF)) {
                finish(frame[MAIN]);
                return;
            }
            terms.bindRow(book.parameters[function], room.right(frame[MAIN]));
            int made = terms.rebuilt(plain ? body : room.item(body, 1), FILL);
            if (plain) {
                askInstead(frame, made);
            } else if (room.trouble == 0) {
                frame[STAGE] = CHOOSE;
                ask(made, TRUTH, frame[ROW]);
            }
        }

        private void chooseBranch(int[] frame) {
            int function = book.functionOf(room.left(frame[MAIN]));
            if (function == NONE || !room.isConstant(answer)) {
                finish(frame[MAIN]);
                return;
            }
            terms.bindRow(book.parameters[function], room.right(frame[MAIN]));
            askInstead(frame, terms.rebuilt(room.item(book.bodies[function], answer != NIL ? 2 : 3), FILL));
        }

        /** Asks each note by itself. */
        boolean doNotesHold() {
            boolean hold = true;
            checking = true;
            for (int k = 0; k < noted && hold; k++) {
                nextNote = k + 1;
                int[] note = notes[k];
                int out = rewritten(note[TERM], note[GOAL], note[ROW]);
                hold = room.trouble == 0 && out == note[NOTE_OUT] && nextNote == note[NOTE_END];
            }
            checking = false;
            nextNote = 0;
            return hold;
        }

        boolean isAllRecalled() {
            return nextNote == noted;
        }

        /** Finds the RULE of the latest theorem. */
        void learn() {
            int theorem = book.theorems - 1;
            if (theorem < 0) {
                return;
            }
            int look = book.formulas[theorem];
            book.hypothesisCounts[theorem] = 0;
            for (int turn = 0; turn < SIZE_LIMIT && room.isCallOf(look, IMPLIES); turn++) {
                addHypotheses(theorem, room.item(look, 1));
                look = room.item(look, 2);
            }
            boolean equal = room.isCallOf(look, EQUAL);
            boolean not = room.isCallOf(look, NOT);
            int left = equal || not ? room.item(look, 1) : look;
            int right = equal ? room.item(look, 2) : not ? NIL : T;
            book.truthAlone[theorem] = !equal && !not && !terms.isBoolean(left);
            if (isRule(theorem, left, right)) {
                book.lefts[theorem] = left;
                book.rights[theorem] = right;
                book.turning[theorem] = terms.matches(left, right) && terms.isBoundToVariables();
                book.on[theorem] = true;
            }
        }

        private void addHypotheses(int theorem, int hypothesis) {
            int[] waiting = terms.waiting;
            waiting[0] = hypothesis;
            int left = 1;
            for (int turn = 0; turn < MANY && left > 0; turn++) {
                left--;
                int look = waiting[left];
                int count = book.hypothesisCounts[theorem];
                if (room.isCallOf(look, IF) && room.item(look, 3) == NIL && left + 1 < waiting.length) {
                    waiting[left] = room.item(look, 2);
                    waiting[left + 1] = room.item(look, 1);
                    left += 2;
                } else if (count < Book.HYPOTHESIS_LIMIT) {
                    book.hypotheses[theorem][count] = look;
                    book.hypothesisCounts[theorem]++;
                }
            }
        }

        private boolean isRule(int theorem, int left, int right) {
            boolean looksSo = room.isCall(left) && !room.isCallOf(left, IF) && !room.isCallOf(left, NOT)
                    && !room.isCallOf(left, IMPLIES) && right != left;
            terms.bindVariablesOf(right);
            boolean rule = looksSo && terms.hasBound(left);
            for (int k = 0; k < book.hypothesisCounts[theorem] && rule; k++) {
                terms.bindVariablesOf(book.hypotheses[theorem][k]);
                rule = terms.hasBound(left);
            }
            return rule;
        }
    }

    /** The PATHS of a function's body, the HINTS, and the clauses that defun, defthm and induct make of them. */
    private static final class Schemes {
        private static final int IF_LIMIT = 64;
        private static final int CALL_LIMIT = 128;

        private final Room room;
        private final Book book;
        private final Terms terms;
        /** The calls of if that the PATH goes through, the outermost first, and whether through the third term. */
        private final int[] ifs = new int[IF_LIMIT];
        private final boolean[] third = new boolean[IF_LIMIT];
        private int deep = 0;
        private int pathEnd = NIL;
        private final int[] calls = new int[CALL_LIMIT];
        private int callCount = 0;
        private final int[] filled = new int[PARAMETER_LIMIT];
        /** The (f v ..) of the HINT induct; NONE without one. */
        private int induction = NONE;

        Schemes(Room room, Book book, Terms terms) {
            this.room = room;
            this.book = book;
            this.terms = terms;
        }

        /** Goes to the first PATH of a body, or, from NONE, to the next one: whether there is one. */
        boolean goToPath(int body) {
            int at = body;
            if (body != NONE) {
                deep = 0;
            } else {
                while (deep > 0 && third[deep - 1]) {
                    deep--;
                }
                if (deep == 0) {
                    return false;
                }
                third[deep - 1] = true;
                at = room.item(ifs[deep - 1], 3);
            }
            while (room.isCallOf(at, IF) && deep < IF_LIMIT) {
                ifs[deep] = at;
                third[deep] = false;
                deep++;
                at = room.item(at, 2);
            }
            pathEnd = at;
            return true;
        }

        int countPaths(int body) {
            int count = 0;
            boolean more = goToPath(body);
            while (count < MANY && more) {
                count++;
                more = goToPath(NONE);
            }
            return count;
        }

        /** Lists the calls of the function in the PATH's END, from the left. */
        private void listCalls(int name) {
            int count = terms.listParts(pathEnd);
            callCount = 0;
            for (int k = 0; k < count; k++) {
                if (room.isCallOf(terms.parts[k], name) && callCount < CALL_LIMIT) {
                    calls[callCount] = terms.parts[k];
                    callCount++;
                }
            }
        }

        /** Whether no RULER, and no term of a call of the function, has a call of it. */
        boolean isFlat(int name, int body) {
            boolean more = goToPath(body);
            for (int path = 0; path < MANY && more; path++) {
                for (int k = 0; k < deep; k++) {
                    if (terms.hasCallOf(room.item(ifs[k], 1), name)) {
                        return false;
                    }
                }
                listCalls(name);
                for (int k = 0; k < callCount; k++) {
                    for (int rest = room.right(calls[k]); room.isPair(rest); rest = room.right(rest)) {
                        if (terms.hasCallOf(room.left(rest), name)) {
                            return false;
                        }
                    }
                }
                more = goToPath(NONE);
            }
            return true;
        }

        /** NOT each RULER of the PATH, with the items for the parameters. */
        void addRulers(Clause clause, int parameters, int items) {
            terms.bindRow(parameters, items);
            for (int k = 0; k < deep && room.trouble == 0; k++) {
                int test = terms.rebuilt(room.item(ifs[k], 1), FILL);
                int ruler = third[k] ? terms.negated(test) : test;
                terms.join(clause, terms.negated(ruler));
            }
        }

        /** The clauses that say that the measure falls. */
        void addMeasureClauses(Prover prover, int name, int parameters, int body, int measure) {
            boolean more = goToPath(body);
            for (int path = 0; path < MANY && more && room.trouble == 0; path++) {
                listCalls(name);
                for (int k = 0; k < callCount && room.trouble == 0; k++) {
                    Clause clause = prover.newClause();
                    addRulers(clause, parameters, parameters);
                    terms.bindRow(parameters, room.right(calls[k]));
                    terms.join(clause, terms.call(LESS, terms.rebuilt(measure, FILL), measure, NONE));
                }
                more = goToPath(NONE);
            }
        }

        /** For each call of the function in the PATH's END, NOT the formula with the call's terms for the variables. */
        void addInductionHypotheses(Clause clause, int formula, int function, int variables) {
            listCalls(book.functionNames[function]);
            for (int k = 0; k < callCount && room.trouble == 0; k++) {
                terms.bindRow(book.parameters[function], variables);
                for (int i = 0; i < book.arities[function]; i++) {
                    filled[i] = terms.rebuilt(room.item(calls[k], i + 1), FILL);
                }
                terms.unbind();
                for (int i = 0; i < book.arities[function]; i++) {
                    terms.bind(room.item(variables, i), filled[i]);
                }
                terms.join(clause, terms.negated(terms.rebuilt(formula, FILL)));
            }
        }

        /** Turns off, for this command, the RULES that the HINTS name. */
        void mute(int hints) {
            for (int rest = hints; room.isPair(rest); rest = room.right(rest)) {
                int hint = room.left(rest);
                int names = room.left(hint) == OFF ? room.right(hint) : NIL;
                for (int at = names; room.isPair(at); at = room.right(at)) {
                    int theorem = book.theoremOf(room.left(at));
                    if (theorem != NONE) {
                        book.muted[theorem] = true;
                    }
                }
            }
        }

        /** For each use among the HINTS, NOT the theorem's formula with these terms for these variables. */
        void addUses(Clause clause, int hints) {
            for (int rest = hints; room.isPair(rest) && room.trouble == 0; rest = room.right(rest)) {
                int hint = room.left(rest);
                int theorem = book.theoremOf(room.item(hint, 1));
                if (room.left(hint) == USE && theorem != NONE) {
                    terms.bindPairs(room.right(room.right(hint)));
                    terms.join(clause, terms.negated(terms.rebuilt(book.formulas[theorem], FILL)));
                }
            }
        }

        /** The clauses of a theorem whose HINTS were asked. */
        void addTheoremClauses(Prover prover, int formula, int hints) {
            Clause uses = prover.spare;
            uses.clear();
            addUses(uses, hints);
            int function = induction == NONE ? NONE : book.functionOf(room.left(induction));
            if (function == NONE) {
                Clause clause = prover.newClause();
                clause.copy(uses);
                terms.join(clause, formula);
                return;
            }
            boolean more = goToPath(book.bodies[function]);
            for (int path = 0; path < MANY && more && room.trouble == 0; path++) {
                Clause clause = prover.newClause();
                clause.copy(uses);
                addRulers(clause, book.parameters[function], room.right(induction));
                addInductionHypotheses(clause, formula, function, room.right(induction));
                terms.join(clause, formula);
                more = goToPath(NONE);
            }
        }

        /** Asks whether the HINTS are as told, and finds the induction among them: an ANSWER. */
        int hintsAsked(int hints) {
            int answer = DONE;
            induction = NONE;
            boolean off = false;
            for (int rest = hints; room.isPair(rest); rest = room.right(rest)) {
                int hint = room.left(rest);
                int length = room.lengthOf(hint);
                int head = length < 2 ? NONE : room.left(hint);
                int said = NOT_AS_TOLD;
                if (head == INDUCT && length == 2 && induction == NONE) {
                    induction = room.item(hint, 1);
                    said = inductionAsked(induction);
                } else if (head == USE) {
                    said = useAsked(room.item(hint, 1), room.right(room.right(hint)));
                } else if (head == OFF && !off) {
                    off = true;
                    said = offAsked(room.right(hint));
                }
                if (said == NOT_AS_TOLD) {
                    return said;
                }
                answer = Math.max(answer, said);
            }
            return answer;
        }

        private int useAsked(int used, int pairs) {
            if (!room.isName(used) || !terms.bindPairs(pairs)) {
                return NOT_AS_TOLD;
            }
            int theorem = book.theoremOf(used);
            if (theorem == NONE) {
                return NAME_WRONG;
            }
            return terms.hasBound(book.formulas[theorem]) ? DONE : NOT_AS_TOLD;
        }

        private int offAsked(int names) {
            int answer = DONE;
            for (int rest = names; room.isPair(rest); rest = room.right(rest)) {
                if (!room.isName(room.left(rest))) {
                    return NOT_AS_TOLD;
                }
                answer = book.theoremOf(room.left(rest)) == NONE ? NAME_WRONG : answer;
            }
            return answer;
        }

        /** Whether the list is (f v ..) as an induction wants it: an ANSWER. */
        int inductionAsked(int call) {
            int name = room.left(call);
            int width = room.lengthOf(call) - 1;
            if (width < 0 || !room.isName(name) || !terms.areDifferentVariables(room.right(call))) {
                return NOT_AS_TOLD;
            }
            int function = book.functionOf(name);
            if (function == NONE) {
                return NAME_WRONG;
            }
            boolean fits = book.measures[function] != NONE && book.arities[function] == width;
            return fits ? DONE : NOT_AS_TOLD;
        }
    }

    /** Proves a row of clauses, or finds those that are LEFT. */
    private static final class Prover {
        private static final int GIVEN_LIMIT = 120;
        private static final int LEFT_LIMIT = 20;
        private static final int ROUND_LIMIT = 6;
        /** Each split uses up a ROUND, so fewer clauses than this wait at once. */
        private static final int WAITING_LIMIT = ROUND_LIMIT + 4;

        private final Room room;
        private final Terms terms;
        private final Rewriter rewriter;
        private final Clause[] given = new Clause[GIVEN_LIMIT];
        private int givenCount = 0;
        /** What came of the given clause that is taken up, the first one last. */
        private final Clause[] waiting = new Clause[WAITING_LIMIT];
        private int waitingCount = 0;
        private final Clause[] left = new Clause[LEFT_LIMIT];
        private int leftCount = 0;
        private final Clause spare = new Clause();
        /** Whether the literals are not REWRITTEN, but what came out of them is taken from the notes. */
        private boolean checking = false;

        Prover(Room room, Terms terms, Rewriter rewriter) {
            this.room = room;
            this.terms = terms;
            this.rewriter = rewriter;
            for (int k = 0; k < GIVEN_LIMIT; k++) {
                given[k] = new Clause();
            }
            for (int k = 0; k < WAITING_LIMIT; k++) {
                waiting[k] = new Clause();
            }
            for (int k = 0; k < LEFT_LIMIT; k++) {
                left[k] = new Clause();
            }
        }

        void begin() {
            givenCount = 0;
            leftCount = 0;
        }

        /** A clause, empty yet, behind those that are given. */
        Clause newClause() {
            if (givenCount >= GIVEN_LIMIT) {
                room.blame(TOO_BIG);
                return spare;
            }
            Clause clause = given[givenCount];
            clause.clear();
            givenCount++;
            return clause;
        }

        void prove(boolean fromNotes) {
            checking = fromNotes;
            leftCount = 0;
            for (int k = 0; k < givenCount && leftCount < LEFT_LIMIT && room.trouble == 0; k++) {
                waiting[0].copy(given[k]);
                waitingCount = 1;
                for (int turn = 0; turn < MANY && waitingCount > 0 && leftCount < LEFT_LIMIT
                        && room.trouble == 0; turn++) {
                    Clause clause = waiting[waitingCount - 1];
                    if (isPlain(clause)) {
                        waitingCount--;
                    } else if (clause.rounds >= ROUND_LIMIT) {
                        leave(clause);
                    } else {
                        makeRound(clause);
                    }
                }
            }
        }

        private void leave(Clause clause) {
            if (leftCount < LEFT_LIMIT) {
                left[leftCount].copy(clause);
                leftCount++;
            }
            waitingCount--;
        }

        /** Whether the clause has a constant that isn't nil, or X and NOT X both. */
        private boolean isPlain(Clause clause) {
            for (int k = 0; k < clause.length; k++) {
                int literal = clause.literals[k];
                if (literal != NIL && room.isConstant(literal)) {
                    return true;
                }
                for (int j = 0; j < clause.length; j++) {
                    if (terms.isNegation(clause.literals[j], literal)) {
                        return true;
                    }
                }
            }
            return false;
        }

        private void makeRound(Clause clause) {
            boolean changed = false;
            clause.rounds++;
            int at = 0;
            for (int turn = 0; turn < MANY && at < clause.length; turn++) {
                int literal = clause.literals[at];
                int row = rowOfOthers(clause, at);
                int out = NONE;
                if (room.trouble == 0) {
                    out = checking ? rewriter.recalled(literal, TRUTH, row) : rewriter.rewritten(literal, TRUTH, row);
                }
                if (out == NONE) {
                    room.blame(TOO_BIG);
                    return;
                }
                if (out == T) {
                    waitingCount--;
                    return;
                }
                if (room.isCallOf(out, IF) || room.isCallOf(out, NOT) && room.isCallOf(room.item(out, 1), IF)) {
                    split(clause, at, out);
                    return;
                }
                boolean same = out == literal && out != NIL;
                changed = changed || !same;
                at += same || stands(clause, at, out) ? 1 : 0;
            }
            // Only what comes of the whole ROUND is a clause that is made, so it is measured here and not before.
            if (!changed) {
                leave(clause);
            } else if (clause.isTooBig()) {
                room.blame(TOO_BIG);
            }
        }

        private int rowOfOthers(Clause clause, int at) {
            int row = NIL;
            for (int k = 0; k < clause.length && room.trouble == 0; k++) {
                if (k != at) {
                    row = room.made(pairCell(terms.negated(clause.literals[k]), row));
                }
            }
            return row;
        }

        /** Puts what came out of a literal in its place: whether it stands there, and didn't go. */
        private boolean stands(Clause clause, int at, int out) {
            clause.remove(at, room.sizeOf(clause.literals[at]));
            int twin = clause.placeOf(out);
            if (out == NIL || twin != NONE && twin < at) {
                return false;
            }
            if (twin != NONE) {
                clause.remove(twin, room.sizeOf(out));
            }
            clause.insert(at, out, room.sizeOf(out));
            return true;
        }

        /** The literal came out as a call of if, or NOT of one: the clause becomes two. */
        private void split(Clause clause, int at, int out) {
            boolean not = room.isCallOf(out, NOT);
            int choice = not ? room.item(out, 1) : out;
            int test = room.item(choice, 1);
            int yes = room.item(choice, 2);
            int no = room.item(choice, 3);
            if (waitingCount >= WAITING_LIMIT) {
                room.blame(TOO_BIG);
                return;
            }
            fillSplit(waiting[waitingCount], clause, at, terms.negated(test), not ? terms.negated(yes) : yes);
            fillSplit(spare, clause, at, test, not ? terms.negated(no) : no);
            clause.copy(spare);
            waitingCount++;
        }

        private void fillSplit(Clause made, Clause from, int at, int first, int second) {
            made.clear();
            for (int k = 0; k < from.length && room.trouble == 0; k++) {
                if (k == at) {
                    terms.join(made, first);
                    terms.join(made, second);
                } else {
                    terms.join(made, from.literals[k]);
                }
            }
            made.rounds = from.rounds;
        }

        /** The list of the literals. */
        int listOf(Clause clause) {
            int list = NIL;
            for (int k = clause.length - 1; k >= 0; k--) {
                list = room.made(pairCell(clause.literals[k], list));
            }
            return list;
        }

        /** The list of the clauses LEFT. */
        int listOfLeft() {
            int list = NIL;
            for (int k = leftCount - 1; k >= 0; k--) {
                list = room.made(pairCell(listOf(left[k]), list));
            }
            return list;
        }

        /** Whether nothing was LEFT, and, where the notes were asked, there are no more of them. */
        boolean isAllProved() {
            return room.trouble == 0 && leftCount == 0 && (!checking || rewriter.isAllRecalled());
        }
    }

    /** Goes through a PROOF told rule by rule. The PROOFS that are not ended are frames in rows of its own. */
    private static final class Proofs {
        private static final int FRAME_LIMIT = 40;
        private static final int CLAUSE_LIMIT = 256;
        /** Of each form, from TAUT on: its length (the least one of inst and induct), its terms, its first part. */
        private static final int[] LENGTHS = {2, 2, 2, 3, 3, 3, 4, 4, 2, 2, 3, 4, 2, 2, 3, 3};
        private static final int[] TERM_COUNTS = {1, 1, 1, 2, 2, 2, 3, 3, 0, 0, 0, 1, 0, 0, 0, 1};
        private static final int[] FIRST_PARTS = {0, 0, 0, 0, 0, 0, 0, 0, 0, 0, 2, 2, 1, 1, 1, 3};
        private static final int[] PART_COUNTS = {0, 0, 0, 0, 0, 0, 0, 0, 0, 0, 1, 2, 1, 1, 2, 0};
        private static final int PROOF = 0;
        private static final int PARTS_LEFT = 1;
        private static final int NEXT_PART = 2;
        private static final int BASE = 3;
        private static final int FRAME_WIDTH = 4;

        private final Room room;
        private final Book book;
        private final Terms terms;
        private final Evaluator evaluator;
        private final Schemes schemes;
        private final int[][] frames = new int[FRAME_LIMIT][FRAME_WIDTH];
        private int depth = 0;
        /** The clauses of the PROOFS that have ended within those that are not. */
        private final Clause[] clauses = new Clause[CLAUSE_LIMIT];
        private int held = 0;
        private final Clause wanted = new Clause();
        /** The PROOF in which something is not as told; NONE while there is none. */
        private int wrong = NONE;

        Proofs(Room room, Book book, Terms terms, Evaluator evaluator, Schemes schemes) {
            this.room = room;
            this.book = book;
            this.terms = terms;
            this.evaluator = evaluator;
            this.schemes = schemes;
            for (int k = 0; k < CLAUSE_LIMIT; k++) {
                clauses[k] = new Clause();
            }
        }

        /** Finds the clause of the PROOF, which is the first one of the row then. */
        void goThrough(int proof) {
            depth = 0;
            held = 0;
            wrong = NONE;
            open(proof);
            for (int turn = 0; turn < MANY && depth > 0 && wrong == NONE && room.trouble == 0; turn++) {
                int[] frame = frames[depth - 1];
                if (frame[PARTS_LEFT] > 0) {
                    int part = room.item(frame[PROOF], frame[NEXT_PART]);
                    frame[PARTS_LEFT]--;
                    frame[NEXT_PART]++;
                    open(part);
                } else {
                    conclude(frame);
                }
            }
        }

        private void open(int proof) {
            if (depth >= FRAME_LIMIT) {
                room.blame(TOO_DEEP);
                return;
            }
            if (!room.step()) {
                return;
            }
            if (!isFormed(proof) || !isWholeFormed(proof)) {
                wrong = proof;
                return;
            }
            int form = room.left(proof) - TAUT;
            int[] frame = frames[depth];
            depth++;
            frame[PROOF] = proof;
            frame[PARTS_LEFT] = form == INDUCT - TAUT ? room.lengthOf(proof) - LENGTHS[form] : PART_COUNTS[form];
            frame[NEXT_PART] = FIRST_PARTS[form];
            frame[BASE] = held;
        }

        /** Whether the PROOF has a known name, the length that goes with it, and terms where these are wanted. */
        private boolean isFormed(int proof) {
            int form = room.left(proof) - TAUT;
            int length = room.lengthOf(proof);
            if (form < 0 || form > INDUCT - TAUT) {
                return false;
            }
            boolean open = form == INST - TAUT || form == INDUCT - TAUT;
            if (length < LENGTHS[form] || length > LENGTHS[form] && !open) {
                return false;
            }
            for (int k = 1; k <= TERM_COUNTS[form]; k++) {
                if (termAt(proof, k) == NONE) {
                    return false;
                }
            }
            return true;
        }

        private int termAt(int proof, int k) {
            return terms.rebuilt(room.item(proof, k), READ);
        }

        private boolean isWholeFormed(int proof) {
            switch (room.left(proof)) {
                case VALUE_OF:
                    return valueAt(proof) != NONE;
                case DEF:
                    return book.functionOf(room.item(proof, 1)) != NONE;
                case THM:
                    return book.theoremOf(room.item(proof, 1)) != NONE;
                case WEAK:
                    return isListOfTerms(room.item(proof, 1));
                case INST:
                    return terms.bindPairs(room.right(room.right(proof)));
                case INDUCT:
                    return isInduction(proof);
                default:
                    return true;
            }
        }

        /** The value of the term of (value L); NONE when there is none. */
        private int valueAt(int proof) {
            int term = terms.rebuilt(room.item(proof, 1), READ);
            int name = room.left(term);
            if (!room.isCall(term) || name > NOT || !terms.isOfConstants(term)) {
                return NONE;
            }
            int first = room.valueOf(room.item(term, 1));
            int second = room.valueOf(room.item(term, 2));
            return evaluator.baseValue(name, first, second, room.valueOf(room.item(term, 3)));
        }

        private boolean isListOfTerms(int list) {
            boolean are = room.lengthOf(list) != NONE;
            for (int rest = list; room.isPair(rest) && are; rest = room.right(rest)) {
                are = terms.rebuilt(room.left(rest), READ) != NONE;
            }
            return are;
        }

        private boolean isInduction(int proof) {
            int induction = room.item(proof, 2);
            if (schemes.inductionAsked(induction) != DONE) {
                return false;
            }
            int function = book.functionOf(room.left(induction));
            int parts = room.lengthOf(proof) - LENGTHS[INDUCT - TAUT];
            return function != NONE && parts == schemes.countPaths(book.bodies[function]);
        }

        /** Makes the clause of a PROOF whose parts have ended, and puts it in the place of theirs. */
        private void conclude(int[] frame) {
            int proof = frame[PROOF];
            int base = frame[BASE];
            if (held >= CLAUSE_LIMIT) {
                room.blame(TOO_BIG);
                return;
            }
            Clause made = clauses[held];
            made.clear();
            boolean fits = true;
            if (room.left(proof) < WEAK) {
                concludeAlone(made, proof);
            } else if (room.left(proof) == INDUCT) {
                fits = isInduced(made, proof, base);
            } else {
                fits = concludeOfParts(made, proof, base);
            }
            wrong = fits ? NONE : proof;
            clauses[held] = clauses[base];
            clauses[base] = made;
            held = base + 1;
            depth--;
        }

        private void concludeAlone(Clause made, int proof) {
            int name = room.left(proof);
            int first = termAt(proof, 1);
            int second = name >= FIRST && name <= NO ? termAt(proof, 2) : NONE;
            switch (name) {
                case TAUT:
                    terms.join(made, first);
                    terms.join(made, terms.negated(first));
                    break;
                case SAME:
                    joinEqual(made, first, first);
                    break;
                case VALUE_OF:
                    joinEqual(made, first, room.constantOf(valueAt(proof)));
                    break;
                case DEF:
                    int function = book.functionOf(room.item(proof, 1));
                    joinEqual(made, definedCall(function), function == NONE ? NONE : book.bodies[function]);
                    break;
                case THM:
                    int theorem = book.theoremOf(room.item(proof, 1));
                    terms.join(made, theorem == NONE ? NONE : book.formulas[theorem]);
                    break;
                case YES:
                case NO:
                    int third = termAt(proof, 3);
                    terms.join(made, name == YES ? terms.negated(first) : first);
                    joinEqual(made, terms.call(IF, first, second, third), name == YES ? second : third);
                    break;
                default:
                    concludePair(made, name, first, second);
                    break;
            }
        }

        private void joinEqual(Clause made, int first, int second) {
            terms.join(made, terms.call(EQUAL, first, second, NONE));
        }

        private void concludePair(Clause made, int name, int first, int second) {
            int pair = terms.call(CONS, first, second, NONE);
            int side = terms.call(name == PAIR ? CONSP : name == FIRST ? CAR : CDR, pair, NONE, NONE);
            boolean whole = name == PAIR;
            terms.join(made, whole ? side : terms.call(EQUAL, side, name == FIRST ? first : second, NONE));
        }

        /** The call of the function and its parameters. */
        private int definedCall(int function) {
            return function == NONE ? NONE
                    : room.made(pairCell(book.functionNames[function], book.parameters[function]));
        }

        /** Whether the clauses of the parts are as told. */
        private boolean concludeOfParts(Clause made, int proof, int base) {
            switch (room.left(proof)) {
                case WEAK:
                    concludeWeak(made, clauses[base], room.item(proof, 1));
                    return true;
                case CUT:
                    return isCut(made, clauses[base], clauses[base + 1], termAt(proof, 1));
                case INST:
                    terms.bindPairs(room.right(room.right(proof)));
                    joinRebuilt(made, clauses[base], FILL);
                    return true;
                default:
                    break;
            }
            Clause first = clauses[base];
            int equation = first.length > 0 ? first.literals[0] : NONE;
            if (!room.isCallOf(equation, EQUAL)) {
                return false;
            }
            if (room.left(proof) == SWAP) {
                joinEqual(made, room.item(equation, 2), room.item(equation, 1));
            } else {
                terms.replaced = room.item(equation, 1);
                terms.replacement = room.item(equation, 2);
                joinRebuilt(made, clauses[base + 1], REPLACE);
            }
            joinAllBut(made, first, equation);
            return true;
        }

        private void joinAllBut(Clause made, Clause from, int literal) {
            for (int k = 0; k < from.length; k++) {
                if (from.literals[k] != literal) {
                    terms.join(made, from.literals[k]);
                }
            }
        }

        private void joinRebuilt(Clause made, Clause from, int way) {
            for (int k = 0; k < from.length; k++) {
                terms.join(made, terms.rebuilt(from.literals[k], way));
            }
        }

        private void concludeWeak(Clause made, Clause part, int more) {
            made.copy(part);
            for (int rest = more; room.isPair(rest); rest = room.right(rest)) {
                terms.join(made, terms.rebuilt(room.left(rest), READ));
            }
        }

        private boolean isCut(Clause made, Clause first, Clause second, int literal) {
            int negation = NONE;
            for (int k = 0; k < second.length; k++) {
                negation = terms.isNegation(second.literals[k], literal) ? second.literals[k] : negation;
            }
            if (first.placeOf(literal) == NONE || negation == NONE) {
                return false;
            }
            joinAllBut(made, first, literal);
            joinAllBut(made, second, negation);
            return true;
        }

        /** Whether each part's clause has no literals but those that induct has for its PATH. */
        private boolean isInduced(Clause made, int proof, int base) {
            int formula = termAt(proof, 1);
            int induction = room.item(proof, 2);
            int function = book.functionOf(room.left(induction));
            if (function == NONE) {
                return false;
            }
            boolean more = schemes.goToPath(book.bodies[function]);
            for (int path = base; path < held && more && room.trouble == 0; path++) {
                wanted.clear();
                schemes.addRulers(wanted, book.parameters[function], room.right(induction));
                schemes.addInductionHypotheses(wanted, formula, function, room.right(induction));
                terms.join(wanted, formula);
                if (room.trouble == 0 && !isWithin(clauses[path], wanted)) {
                    return false;
                }
                more = schemes.goToPath(NONE);
            }
            terms.join(made, formula);
            return true;
        }

        private boolean isWithin(Clause clause, Clause whole) {
            for (int k = 0; k < clause.length; k++) {
                if (whole.placeOf(clause.literals[k]) == NONE) {
                    return false;
                }
            }
            return true;
        }
    }

    private final Room room = new Room();
    private final Book book = new Book(room.used);
    private final Reader reader = new Reader(room);
    private final Scribe out = new Scribe(room, OUT_LIMIT);
    private final Terms terms = new Terms(room, book);
    private final Evaluator evaluator = new Evaluator(room, book);
    private final Rewriter rewriter = new Rewriter(room, book, terms, evaluator);
    private final Schemes schemes = new Schemes(room, book, terms);
    private final Prover prover = new Prover(room, terms, rewriter);
    private final Proofs proofs = new Proofs(room, book, terms, evaluator, schemes);
    private final char[] text = new char[TEXT_LIMIT];
    private int textLength = 0;
    private final int[] waiting = new int[WAITING_BYTES / 4];
    private int fuelSet = FUEL_LIMIT;
    /** Of the command: the name that it gives or names, its term, its measure, its HINTS. */
    private int name = NONE;
    private int subject = NONE;
    private int measure = NONE;
    private int hints = NIL;
    private int stepsMade = 0;
    private int workFault = 0;
    /** Whether the latest command had clauses TO PROVE, and none was LEFT. */
    private boolean proved = false;

    public ProofHouse() {
    }

    public void feed(int a, int b, int c, int d, int e) {
        waiting[0] = a;
        waiting[1] = b;
        waiting[2] = c;
        waiting[3] = d;
        waiting[4] = e;
    }

    public int end(int n) {
        if (n < 0 || n > WAITING_BYTES || textLength + n > TEXT_LIMIT) {
            return NONE;
        }
        for (int k = 0; k < n; k++) {
            text[textLength + k] = (char) (waiting[k / 4] >>> 24 - k % 4 * 8 & 255);
        }
        textLength += n;
        Arrays.fill(waiting, 0);
        return textLength;
    }

    public int fuel(int n) {
        if (n < 1 || n > FUEL_LIMIT) {
            return NONE;
        }
        int before = fuelSet;
        fuelSet = n;
        return before;
    }

    public int run() {
        int length = textLength;
        textLength = 0;
        forgetLatest();
        int order = reader.read(text, length);
        if (reader.flaw != 0) {
            return NOT_READ;
        }
        int answer = asked(order);
        if (answer == DONE && room.trouble != 0) {
            answer = NO_ROOM;
        }
        if (answer != DONE) {
            return answer;
        }
        int mark = room.used;
        room.begin(fuelSet);
        prepare(order);
        // These two stand here and not below, since the calls that they make go deep.
        if (room.trouble == 0) {
            prover.prove(false);
        }
        if (room.left(order) == CHECK) {
            proofs.goThrough(room.item(order, 3));
        }
        stepsMade = room.spent;
        workFault = room.trouble;
        return conclude(order, mark);
    }

    public int fault(int what) {
        switch (what) {
            case 0:
                return reader.flaw;
            case 1:
                return reader.place;
            case 2:
                return workFault;
            default:
                return NONE;
        }
    }

    public int steps() {
        return stepsMade;
    }

    public int count(int what) {
        switch (what) {
            case 0:
                return book.functions;
            case 1:
                return book.theorems;
            case 2:
                return book.rules(false);
            case 3:
                return book.rules(true);
            case 4:
                return prover.leftCount;
            default:
                return NONE;
        }
    }

    public int size() {
        return out.length;
    }

    public int letter(int k) {
        return k >= 0 && k < out.length ? out.letters[k] : NONE;
    }

    public int taken(int k) {
        return k >= 0 && k < book.entries ? book.kinds[k] : 0;
    }

    public int tell(int k) {
        if (k < 0 || k >= book.entries) {
            return NONE;
        }
        int place = book.placeOf(k);
        int told;
        if (book.kinds[k] == Book.FUNCTION_KIND) {
            int last = book.measures[place];
            told = last == NONE ? NIL : room.made(pairCell(last, NIL));
            told = room.made(pairCell(book.parameters[place], room.made(pairCell(book.bodies[place], told))));
            told = room.made(pairCell(DEFUN, room.made(pairCell(book.functionNames[place], told))));
        } else {
            told = room.made(pairCell(book.formulas[place], NIL));
            told = room.made(pairCell(THEOREM, room.made(pairCell(book.theoremNames[place], told))));
        }
        out.clear();
        out.write(told);
        return out.length;
    }

    public boolean recheck() {
        if (!proved) {
            return false;
        }
        room.begin(MANY);
        boolean hold = rewriter.doNotesHold();
        prover.prove(true);
        return hold && prover.isAllProved();
    }

    private void forgetLatest() {
        out.clear();
        room.forget(book.kept);
        room.begin(0);
        book.muteNone();
        prover.begin();
        name = NONE;
        subject = NONE;
        measure = NONE;
        hints = NIL;
        stepsMade = 0;
        workFault = 0;
        proved = false;
    }

    /** Asks whether the order is a command that can be done: an ANSWER. */
    private int asked(int order) {
        if (!isAsTold(order)) {
            return NOT_AS_TOLD;
        }
        int answer = schemes.hintsAsked(hints);
        return answer == DONE ? nameAsked(order) : answer;
    }

    private boolean isAsTold(int order) {
        int length = room.lengthOf(order);
        switch (length < 1 ? NONE : room.left(order)) {
            case EVAL:
                return length == 2 && isTermAt(order, 1) && terms.hasVariablesOf(subject, NIL);
            case SIMPLIFY:
                return length == 2 && isTermAt(order, 1);
            case PROVE:
                hints = room.right(room.right(order));
                return length >= 2 && isTermAt(order, 1);
            case DEFTHM:
                hints = room.right(room.right(room.right(order)));
                return length >= 3 && isNameAt(order) && isTermAt(order, 2);
            case CHECK:
                return length == 4 && isNameAt(order) && isTermAt(order, 2);
            case DEFUN:
                return (length == 4 || length == 5) && isNameAt(order) && isDefinition(order, length == 5);
            case ON:
            case OFF:
                return length == 2 && isNameAt(order);
            case UNDO:
                return length == 1;
            default:
                return false;
        }
    }

    private boolean isNameAt(int order) {
        name = room.item(order, 1);
        return room.isName(name);
    }

    private boolean isTermAt(int order, int place) {
        subject = terms.rebuilt(room.item(order, place), READ);
        return subject != NONE;
    }

    private boolean isDefinition(int order, boolean measured) {
        int parameters = room.item(order, 2);
        int width = room.lengthOf(parameters);
        if (width < 0 || width > PARAMETER_LIMIT || !terms.areDifferentVariables(parameters)) {
            return false;
        }
        terms.ownName = name;
        terms.ownArity = width;
        subject = terms.rebuilt(room.item(order, 3), READ);
        terms.ownArity = NONE;
        measure = measured ? terms.rebuilt(room.item(order, 4), READ) : NONE;
        terms.ownName = NONE;
        if (subject == NONE || measured && measure == NONE) {
            return false;
        }
        return terms.hasCallOf(subject, name) == measured && schemes.isFlat(name, subject)
                && terms.hasVariablesOf(subject, parameters)
                && (!measured || terms.hasVariablesOf(measure, parameters));
    }

    private int nameAsked(int order) {
        int theorem = book.theoremOf(name);
        switch (room.left(order)) {
            case DEFUN:
                if (book.functionOf(name) != NONE) {
                    return NAME_WRONG;
                }
                return book.functions < FUNCTION_LIMIT ? DONE : NO_ROOM;
            case DEFTHM:
            case CHECK:
                if (theorem != NONE) {
                    return NAME_WRONG;
                }
                return book.theorems < THEOREM_LIMIT ? DONE : NO_ROOM;
            case ON:
            case OFF:
                return theorem != NONE && book.lefts[theorem] != NONE ? DONE : NAME_WRONG;
            case UNDO:
                return book.entries > 0 ? DONE : NAME_WRONG;
            default:
                return DONE;
        }
    }

    /** Does a command's work, but for that of proving, for which it gives the clauses. */
    private void prepare(int order) {
        int theorem = book.theoremOf(name);
        rewriter.begin();
        switch (room.left(order)) {
            case EVAL:
                showValue(evaluator.evaluated(subject, MANY));
                break;
            case SIMPLIFY:
                showTerm(rewriter.rewritten(subject, VALUE, NIL));
                break;
            case PROVE:
            case DEFTHM:
                schemes.mute(hints);
                schemes.addTheoremClauses(prover, subject, hints);
                break;
            case DEFUN:
                if (measure != NONE) {
                    schemes.addMeasureClauses(prover, name, room.item(order, 2), subject, measure);
                }
                break;
            case ON:
            case OFF:
                if (theorem != NONE) {
                    book.on[theorem] = room.left(order) == ON;
                }
                break;
            case UNDO:
                book.takeBack();
                break;
            default:
                break;
        }
    }

    private void showValue(int value) {
        if (value == NONE) {
            room.blame(evaluator.stopped);
        } else {
            out.write(value);
        }
    }

    private void showTerm(int term) {
        if (term != NONE) {
            out.write(term);
        }
    }

    /** Takes what the command was to give, or tells why not: the ANSWER. */
    private int conclude(int order, int mark) {
        int head = room.left(order);
        if (room.trouble != 0) {
            out.clear();
            prover.begin();
            return NOT_WORKED;
        }
        if (prover.leftCount > 0) {
            out.write(prover.listOfLeft());
            return head == DEFUN ? NOT_FALLING : NOT_PROVED;
        }
        proved = prover.givenCount > 0;
        if (head == CHECK && shownWrong() != NONE) {
            out.write(shownWrong());
            return PROOF_WRONG;
        }
        if (head == DEFUN) {
            int parameters = room.item(order, 2);
            book.addFunction(name, parameters, room.lengthOf(parameters), subject, measure);
            book.enter(Book.FUNCTION_KIND, mark);
        } else if (head == DEFTHM || head == CHECK) {
            book.addTheorem(name, subject);
            rewriter.learn();
            book.enter(head == CHECK ? Book.CHECKED_KIND : Book.PROVED_KIND, mark);
        }
        return DONE;
    }

    /** The PROOF that is wrong, or the clause that has other literals than the formula; NONE when all is right. */
    private int shownWrong() {
        Clause clause = proofs.clauses[0];
        int others = 0;
        for (int k = 0; k < clause.length; k++) {
            others += clause.literals[k] == subject ? 0 : 1;
        }
        if (proofs.wrong != NONE) {
            return proofs.wrong;
        }
        return others > 0 ? prover.listOf(clause) : NONE;
    }
}
