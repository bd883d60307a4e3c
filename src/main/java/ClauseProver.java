import java.util.Arrays;
import java.util.NoSuchElementException;

/**
 * A prover for first-order logic with equality: a text of formulas becomes clauses, and these are
 * saturated by superposition, resolution and factoring under an order of terms, simplified by
 * rewriting and subsumption, until the empty clause stands or nothing is left to do.
 *
 * <p>TERMS are held flat, each SYMBOL before its TERMS: a cell is a SYMBOL's number, or ~v for
 * VARIABLE v. Rows are made once and used again by every read, so that calls make next to nothing.
 */
public final class ClauseProver {

    private static final int TAPE_ROOM = 65536;
    private static final int FEED_SIZE = 20;
    private static final int MOST_SIGNS = 31;
    private static final int MOST_WORDS = 20000;
    private static final int MOST_NAMES = 250;
    private static final int MOST_BOUND = 300;
    private static final int SYMBOLS_ROOM = 1 + MOST_NAMES + MOST_BOUND;
    private static final int DEEPEST = 60;
    private static final int HIGHEST = 200;
    private static final int MOST_TEXT_CLAUSES = 200;
    private static final int MOST_CLAUSES = 2000;
    private static final int MOST_LITERALS = 8;
    private static final int MOST_WEIGHT = 100;
    private static final int MOST_VARIABLES = 6;
    private static final int MOST_REWRITES = 60;
    private static final int MOST_STEPS = 100;
    private static final int MOST_ELEMENTS = 3;
    private static final int MOST_SEEDS = 50;
    private static final int OLDEST_EACH = 5;
    /** Far above what any loop that counts to it can need. */
    private static final int FAR = 1000000;
    private static final int NONE = -1;

    private static final int CANNOT_STAND = 1;
    private static final int NAME_CLASH = 2;
    private static final int TOO_LARGE = 3;

    private static final int TEXT_END = 0;
    private static final int BAD = 1;
    private static final int NAME = 2;
    private static final int VARIABLE = 3;
    private static final int DOT = 4;
    private static final int OPEN_SIGN = 5;
    private static final int CLOSE_SIGN = 6;
    private static final int COMMA = 7;
    private static final int COLON = 8;
    private static final int EQUAL = 9;
    private static final int UNEQUAL = 10;
    private static final int NOT = 11;
    private static final int ALL = 12;
    private static final int SOME = 13;
    private static final int AND = 14;
    private static final int OR = 15;
    private static final int IMPLIES = 16;
    private static final int EQUIVALENT = 17;

    private static final int TRUE = 0;
    private static final int UNSETTLED = 0;
    private static final int PREDICATE = 1;
    private static final int FUNCTION = 2;

    private static final int OPEN = 0;
    private static final int REFUTED = 1;
    private static final int SATURATED = 2;
    private static final int FULL = 3;

    private static final int FROM_TEXT = 0;
    private static final int SUPERPOSITION = 1;
    private static final int RESOLUTION = 2;
    private static final int FACTORING = 3;
    private static final int REWRITING = 4;

    private static final int PASSIVE = 0;
    private static final int PROCESSED = 1;
    private static final int GONE = 2;

    private final Row tape = new Row(256);
    private final Row shown = new Row(64);
    private final int[] openTerms = new int[MOST_WEIGHT + 1];
    private final Symbols symbols;
    private final Formulas formulas;
    private final Parser parser;
    private final Draft draft;
    private final Store store;
    private final Saturation saturation;
    private final Model model;
    private int faultKind;
    private int faultPlace;

    public ClauseProver() {
        symbols = new Symbols();
        formulas = new Formulas(symbols);
        parser = new Parser(symbols, formulas);
        draft = new Draft(symbols);
        store = new Store(symbols);
        saturation = new Saturation(symbols, store, draft);
        model = new Model(symbols, store);
    }

    public int feed(int a, int b, int c, int d, int e) throws IllegalStateException {
        if (tape.size + FEED_SIZE > TAPE_ROOM) {
            throw new IllegalStateException("no room on the tape");
        }
        addBytes(a);
        addBytes(b);
        addBytes(c);
        addBytes(d);
        addBytes(e);
        return tape.size;
    }

    private void addBytes(int number) {
        for (int shift = 24; shift >= 0; shift -= 8) {
            tape.add(number >>> shift & 255);
        }
    }

    public int end(int n) throws IllegalArgumentException {
        if (n < 0 || n > tape.size) {
            throw new IllegalArgumentException("not within the tape");
        }
        tape.size = n;
        return n;
    }

    public int read() {
        symbols.clear();
        store.clear();
        saturation.clear();
        parser.parse(tape.at, tape.size);
        tape.size = 0;
        faultKind = parser.fault;
        faultPlace = parser.faultPlace;
        if (faultKind == 0) {
            formulas.makeWitnesses();
            int place = formulas.makeClauses(draft, store);
            faultKind = place == NONE ? 0 : TOO_LARGE;
            faultPlace = place == NONE ? 0 : place;
        }
        if (faultKind != 0) {
            symbols.clear();
            store.clear();
            return -1;
        }
        store.textSize = store.size;
        return store.size;
    }

    public int fault(int what) {
        if (what == 0) {
            return faultKind;
        }
        return what == 1 ? faultPlace : -1;
    }

    public int run(int n) throws IllegalArgumentException {
        if (n < 1 || n > MOST_STEPS) {
            throw new IllegalArgumentException("not 1 .. 100 steps");
        }
        for (int i = 0; i < n && saturation.state == OPEN; i++) {
            int given = saturation.takeGiven();
            if (given != NONE) {
                saturation.inferFrom(given);
            }
        }
        return saturation.state;
    }

    public int clause(int k, int what) throws NoSuchElementException, IllegalArgumentException {
        if (!store.has(k)) {
            throw new NoSuchElementException("no such clause");
        }
        if (what < 0 || what > Store.REWROTE) {
            throw new IllegalArgumentException("no such what");
        }
        return store.fact(k, what);
    }

    public int rewrote(int k, int i) throws NoSuchElementException {
        if (!store.has(k) || i < 0 || i >= store.fact(k, Store.REWROTE)) {
            throw new NoSuchElementException("no such clause or rewriter");
        }
        return store.rewriters.at[store.fact(k, Store.REWRITERS) + i];
    }

    public int literal(int k, int i, int what) throws NoSuchElementException, IllegalArgumentException {
        if (!store.has(k) || i < 0 || i >= store.fact(k, Store.LITERALS)) {
            throw new NoSuchElementException("no such literal");
        }
        if (what < 0 || what > 3) {
            throw new IllegalArgumentException("no such what");
        }
        store.judge(k);
        int head = store.headOf(k, i);
        int[] cells = store.cells.at;
        if (what == 3) {
            return cells[head + Store.LEFT] + cells[head + Store.RIGHT];
        }
        return cells[head + (what == 0 ? Store.SIGN : what == 1 ? Store.ORDER : Store.ELIGIBLE)];
    }

    public int show(int k) throws NoSuchElementException {
        if (!store.has(k)) {
            throw new NoSuchElementException("no such clause");
        }
        shown.size = 0;
        int literals = store.fact(k, Store.LITERALS);
        if (literals == 0) {
            writeText("false");
        }
        int head = store.fact(k, Store.START);
        for (int i = 0; i < literals; i++) {
            if (i > 0) {
                writeText(" | ");
            }
            writeLiteral(head);
            head = store.behind(head);
        }
        return shown.size;
    }

    private void writeLiteral(int head) {
        int[] cells = store.cells.at;
        boolean positive = cells[head + Store.SIGN] == 1;
        int left = store.sideAt(head, 0);
        int right = store.sideAt(head, 1);
        if (cells[right] == TRUE) {
            writeText(positive ? "" : "~");
            writeTerm(left, right);
            return;
        }
        writeTerm(left, right);
        writeText(positive ? " = " : " != ");
        writeTerm(right, right + cells[head + Store.RIGHT]);
    }

    /** Keeps how many TERMS each open ( still waits for, so that no TERM is too deep for it. */
    private void writeTerm(int from, int to) {
        int open = 0;
        for (int i = from; i < to; i++) {
            int cell = store.cells.at[i];
            writeWord(cell);
            int terms = cell < 0 ? 0 : symbols.arity[cell];
            if (terms > 0 && open < openTerms.length) {
                writeText("(");
                openTerms[open++] = terms;
                continue;
            }
            while (open > 0 && openTerms[open - 1] == 1) {
                writeText(")");
                open--;
            }
            if (open > 0) {
                writeText(",");
                openTerms[open - 1]--;
            }
        }
    }

    private void writeWord(int cell) {
        if (cell < 0) {
            writeText("X");
            writeNumber(~cell);
        } else if (symbols.isWitness(cell)) {
            writeText("w");
            writeNumber(cell - symbols.names - 1);
        } else if (cell != TRUE) {
            for (int i = 0; i < symbols.nameSize[cell]; i++) {
                shown.add(symbols.letters.at[symbols.nameAt[cell] + i]);
            }
        }
    }

    private void writeText(String text) {
        for (int i = 0; i < text.length(); i++) {
            shown.add(text.charAt(i));
        }
    }

    private void writeNumber(int number) {
        int unit = number >= 100 ? 100 : number >= 10 ? 10 : 1;
        for (; unit > 0; unit /= 10) {
            shown.add('0' + number / unit % 10);
        }
    }

    public int out(int i) throws IndexOutOfBoundsException {
        if (i < 0 || i >= shown.size) {
            throw new IndexOutOfBoundsException("no such byte");
        }
        return shown.at[i];
    }

    public int symbol(int k, int what) throws NoSuchElementException, IllegalArgumentException {
        if (k < 0 || k >= symbols.size) {
            throw new NoSuchElementException("no such symbol");
        }
        if (what < 0 || what > 2) {
            throw new IllegalArgumentException("no such what");
        }
        if (what == 0) {
            return symbols.arity[k];
        }
        boolean is = what == 1 ? symbols.isPredicate(k) : symbols.isWitness(k);
        return is ? 1 : 0;
    }

    public int proof() {
        return saturation.proofRow.size;
    }

    public int step(int i) throws IndexOutOfBoundsException {
        if (i < 0 || i >= saturation.proofRow.size) {
            throw new IndexOutOfBoundsException("no such clause of the proof");
        }
        return saturation.proofRow.at[i];
    }

    public int look(int seed, int m) throws IllegalArgumentException {
        if (m < 1 || m > MOST_ELEMENTS) {
            throw new IllegalArgumentException("not 1 .. 3 elements");
        }
        if (!model.suitsText(seed, m)) {
            return -1;
        }
        int wrong = 0;
        for (int k = store.textSize; k < store.size; k++) {
            if (!model.makesTrue(k)) {
                wrong++;
            }
        }
        return wrong;
    }

    public int search(int seed, int m, int n) throws IllegalArgumentException {
        if (m < 1 || m > MOST_ELEMENTS || n < 1 || n > MOST_SEEDS) {
            throw new IllegalArgumentException("not 1 .. 3 elements or not 1 .. 50 seeds");
        }
        for (int i = 0; i < n; i++) {
            if (model.suitsText(seed + i, m)) {
                return i;
            }
        }
        return -1;
    }

    public int count(int what) {
        switch (what) {
            case 0: return store.size;
            case 1: return store.textSize;
            case 2: return store.howMany(PASSIVE);
            case 3: return store.howMany(PROCESSED);
            case 4: return saturation.steps;
            case 5: return saturation.inferences;
            case 6: return saturation.dropped;
            case 7: return saturation.subsumed;
            case 8: return saturation.rewritten;
            case 9: return saturation.tautologies;
            case 10: return saturation.state;
            case 11: return symbols.size;
            case 12: return tape.size;
            case 13: return shown.size;
            default: return -1;
        }
    }

    /** A row of numbers that grows by doubling, so that a small TEXT takes little room. */
    private static final class Row {
        int[] at;
        int size;

        Row(int room) {
            at = new int[room];
        }

        void add(int number) {
            if (size == at.length) {
                at = Arrays.copyOf(at, 2 * size + 1);
            }
            at[size++] = number;
        }
    }

    /** Parts the TEXT into WORDS and signs; one of them is the present one. */
    private static final class Words {
        /** This bit makes a capital letter a small one, and no other byte a letter. */
        private static final int SMALL = 32;

        int[] text;
        int length;
        int kind;
        int place;
        int size;
        /** The present one is beyond the 20,000th: its kind is known, but it stands nowhere. */
        boolean excess;
        private int next;
        private int number;

        void open(int[] bytes, int n) {
            text = bytes;
            length = n;
            next = 0;
            number = 0;
            advance();
        }

        boolean isNow(int wanted) {
            return kind == wanted && !excess;
        }

        boolean isProve() {
            return isNow(NAME) && size == 5 && text[place] == 'p' && text[place + 1] == 'r'
                && text[place + 2] == 'o' && text[place + 3] == 'v' && text[place + 4] == 'e';
        }

        void advance() {
            skipBlanks();
            place = next;
            size = 0;
            excess = false;
            kind = TEXT_END;
            if (next >= length) {
                return;
            }
            number++;
            excess = number > MOST_WORDS;
            if ((text[next] | SMALL) >= 'a' && (text[next] | SMALL) <= 'z') {
                takeWord();
            } else {
                takeSign(next + 1 < length ? text[next + 1] : NONE, next + 2 < length ? text[next + 2] : NONE);
            }
            next += size;
        }

        private void skipBlanks() {
            boolean comment = false;
            for (; next < length; next++) {
                int c = text[next];
                if (c == '\n') {
                    comment = false;
                } else if (c == '%') {
                    comment = true;
                } else if (!comment && c != ' ' && c != '\t' && c != '\r') {
                    return;
                }
            }
        }

        private void takeWord() {
            boolean more = true;
            while (more && next + size < length) {
                int c = text[next + size];
                more = (c | SMALL) >= 'a' && (c | SMALL) <= 'z' || c >= '0' && c <= '9' || c == '_';
                size += more ? 1 : 0;
            }
            boolean capital = text[next] <= 'Z';
            kind = size > MOST_SIGNS ? BAD : capital ? VARIABLE : NAME;
        }

        private void takeSign(int second, int third) {
            size = 1;
            switch (text[next]) {
                case '.': kind = DOT; break;
                case '(': kind = OPEN_SIGN; break;
                case ')': kind = CLOSE_SIGN; break;
                case ',': kind = COMMA; break;
                case ':': kind = COLON; break;
                case '~': kind = NOT; break;
                case '?': kind = SOME; break;
                case '&': kind = AND; break;
                case '|': kind = OR; break;
                case '!':
                    size = second == '=' ? 2 : 1;
                    kind = second == '=' ? UNEQUAL : ALL;
                    break;
                case '=':
                    size = second == '>' ? 2 : 1;
                    kind = second == '>' ? IMPLIES : EQUAL;
                    break;
                case '<':
                    size = second == '=' && third == '>' ? 3 : 1;
                    kind = size == 3 ? EQUIVALENT : BAD;
                    break;
                default:
                    kind = BAD;
                    break;
            }
        }
    }

    /** TRUE, the NAMES and the WITNESSES, and what follows from their TERMS and numbers alone. */
    private static final class Symbols {
        final int[] arity = new int[SYMBOLS_ROOM];
        final int[] nameAt = new int[MOST_NAMES + 1];
        final int[] nameSize = new int[MOST_NAMES + 1];
        final Row letters = new Row(128);
        int names;
        int size;
        private final int[] kind = new int[SYMBOLS_ROOM];
        private final int[] balance = new int[MOST_VARIABLES];

        Symbols() {
            kind[TRUE] = PREDICATE;
            size = 1;
        }

        void clear() {
            names = 0;
            size = 1;
            letters.size = 0;
        }

        /** The number of the NAME that stands there, a new one if need be, NONE without room. */
        int numberOf(Words words) {
            for (int k = 1; k <= names; k++) {
                int same = 0;
                while (same < nameSize[k] && same < words.size
                    && letters.at[nameAt[k] + same] == words.text[words.place + same]) {
                    same++;
                }
                if (same == nameSize[k] && same == words.size) {
                    return k;
                }
            }
            if (names == MOST_NAMES) {
                return NONE;
            }
            names++;
            size = names + 1;
            kind[names] = UNSETTLED;
            nameAt[names] = letters.size;
            nameSize[names] = words.size;
            for (int i = 0; i < words.size; i++) {
                letters.add(words.text[words.place + i]);
            }
            return names;
        }

        /** The first use of a NAME says what it is; false if this use is another one. */
        boolean settles(int k, int newKind, int terms) {
            if (kind[k] == UNSETTLED) {
                kind[k] = newKind;
                arity[k] = terms;
            }
            return kind[k] == newKind && arity[k] == terms;
        }

        int addWitness(int terms) {
            if (size == SYMBOLS_ROOM) {
                return NONE;
            }
            kind[size] = FUNCTION;
            arity[size] = terms;
            return size++;
        }

        boolean isPredicate(int k) {
            return kind[k] == PREDICATE;
        }

        boolean isWitness(int k) {
            return k > names;
        }

        /** Where the TERM at p ends. */
        int after(int[] cells, int p) {
            int need = 1;
            int i = p;
            for (; i < cells.length && need > 0; i++) {
                need += cells[i] < 0 ? -1 : arity[cells[i]] - 1;
            }
            return i;
        }

        boolean same(int[] a, int p, int[] b, int q) {
            int n = after(a, p) - p;
            if (q + n > b.length) {
                return false;
            }
            for (int i = 0; i < n; i++) {
                if (a[p + i] != b[q + i]) {
                    return false;
                }
            }
            return true;
        }

        /** Is the TERM at p of a GREATER than that at q of b. */
        boolean greater(int[] a, int p, int[] b, int q) {
            int s = p;
            int t = q;
            for (int level = 0; level <= MOST_WEIGHT; level++) {
                int sSize = after(a, s) - s;
                int tSize = after(b, t) - t;
                if (a[s] < 0 || sSize < tSize || !hasAllVariables(a, s, sSize, b, t, tSize)) {
                    return false;
                }
                if (sSize > tSize) {
                    return true;
                }
                if (a[s] != b[t]) {
                    return a[s] > b[t];
                }
                int step = toDifference(a, s, b, t, sSize);
                if (step == 0) {
                    return false;
                }
                s += step;
                t += step;
            }
            return false;
        }

        private boolean hasAllVariables(int[] a, int p, int n, int[] b, int q, int m) {
            Arrays.fill(balance, 0);
            for (int i = p; i < p + n; i++) {
                if (a[i] < 0) {
                    balance[~a[i]]++;
                }
            }
            for (int i = q; i < q + m; i++) {
                if (b[i] < 0 && --balance[~b[i]] < 0) {
                    return false;
                }
            }
            return true;
        }

        /** How far behind p, and q, the first of their TERMS that differ begin; 0: none differ. */
        private int toDifference(int[] a, int p, int[] b, int q, int n) {
            int cell = 1;
            while (cell < n && a[p + cell] == b[q + cell]) {
                cell++;
            }
            int start = 1;
            while (cell < n && start < n) {
                int stop = after(a, p + start) - p;
                if (cell < stop) {
                    return start;
                }
                start = stop;
            }
            return 0;
        }
    }

    /** The FORMULAS of the TEXT, parts before wholes, their bound VARIABLES, and their CLAUSES. */
    private static final class Formulas {
        private static final int KIND = 0;
        private static final int FIRST = 1;
        private static final int SECOND = 2;
        private static final int HEIGHT = 3;
        private static final int IF_FALSE = 4;
        private static final int IF_TRUE = 5;
        private static final int REACHED = 6;
        private static final int NODE = 7;

        private static final int PLACE = 0;
        private static final int PROVE = 1;
        private static final int ROOT = 2;
        private static final int FREE_FROM = 3;
        private static final int FREE_TO = 4;
        private static final int SENTENCE = 5;

        private static final int FREE = -2;

        final Row terms = new Row(128);
        final int[] outer = new int[MOST_BOUND];
        int variables;
        int scope;
        private final Symbols symbols;
        private final Row nodes = new Row(256);
        private final Row sentences = new Row(64);
        private final int[] wordAt = new int[MOST_BOUND];
        private final int[] wordSize = new int[MOST_BOUND];
        /** How many VARIABLES of its own sort, free ones or others, are bound around it. */
        private final int[] level = new int[MOST_BOUND];
        private final int[] sentenceOf = new int[MOST_BOUND];
        private final int[] witness = new int[MOST_BOUND];
        private final boolean[] replaced = new boolean[MOST_BOUND];
        private final int[] free = new int[MOST_BOUND];
        private int freeSize;
        /** Parts that are still to be written: node, truth and number of its CLAUSE, by threes. */
        private final Row pending = new Row(64);

        Formulas(Symbols symbols) {
            this.symbols = symbols;
        }

        void clear() {
            terms.size = 0;
            nodes.size = 0;
            sentences.size = 0;
            variables = 0;
            freeSize = 0;
            scope = NONE;
        }

        void openSentence(int place, boolean prove) {
            sentences.add(place);
            sentences.add(prove ? 1 : 0);
            sentences.add(NONE);
            sentences.add(freeSize);
            sentences.add(freeSize);
            scope = NONE;
        }

        void closeSentence(int root) {
            sentences.at[sentences.size - SENTENCE + ROOT] = root;
        }

        /** A new VARIABLE behind ! or ?, NONE without room. */
        int bind(Words words) {
            int v = addVariable(words);
            if (v != NONE) {
                outer[v] = scope;
                level[v] = scope == NONE ? 0 : level[scope] + 1;
                scope = v;
            }
            return v;
        }

        /** The VARIABLE that the present WORD means, NONE without room. */
        int variableOf(Words words) {
            int v = scope;
            for (int i = 0; i < MOST_BOUND && v != NONE; i++) {
                if (isWord(v, words)) {
                    return v;
                }
                v = outer[v];
            }
            int sentence = sentences.size - SENTENCE;
            for (int i = sentences.at[sentence + FREE_FROM]; i < freeSize; i++) {
                if (isWord(free[i], words)) {
                    return free[i];
                }
            }
            v = addVariable(words);
            if (v != NONE) {
                outer[v] = FREE;
                level[v] = freeSize - sentences.at[sentence + FREE_FROM];
                free[freeSize++] = v;
                sentences.at[sentence + FREE_TO] = freeSize;
            }
            return v;
        }

        private int addVariable(Words words) {
            if (variables == MOST_BOUND) {
                return NONE;
            }
            wordAt[variables] = words.place;
            wordSize[variables] = words.size;
            sentenceOf[variables] = sentences.size - SENTENCE;
            return variables++;
        }

        private boolean isWord(int v, Words words) {
            if (wordSize[v] != words.size) {
                return false;
            }
            for (int i = 0; i < words.size; i++) {
                if (words.text[wordAt[v] + i] != words.text[words.place + i]) {
                    return false;
                }
            }
            return true;
        }

        /**
         * An ATOM from the starts of its TERMS (NONE behind a PREDICATE), ! or ? from its FORMULA and
         * VARIABLE, the others from their FORMULAS. Counts of CLAUSES stop above the limit, as one
         * that is used is never beyond it.
         */
        int addNode(int kind, int first, int second) {
            int one = kind >= NOT ? first * NODE : NONE;
            int two = kind >= AND ? second * NODE : NONE;
            int f1 = one == NONE ? 1 : nodes.at[one + IF_FALSE];
            int t1 = one == NONE ? 1 : nodes.at[one + IF_TRUE];
            int f2 = two == NONE ? 1 : nodes.at[two + IF_FALSE];
            int t2 = two == NONE ? 1 : nodes.at[two + IF_TRUE];
            int ifFalse = f1;
            int ifTrue = t1;
            switch (kind) {
                case NOT: ifFalse = t1; ifTrue = f1; break;
                case AND: ifFalse = f1 * f2; ifTrue = t1 + t2; break;
                case OR: ifFalse = f1 + f2; ifTrue = t1 * t2; break;
                case IMPLIES: ifFalse = t1 + f2; ifTrue = f1 * t2; break;
                case EQUIVALENT: ifFalse = t1 * t2 + f1 * f2; ifTrue = f1 * t2 + f2 * t1; break;
                default: break;
            }
            int height = Math.max(one == NONE ? 0 : nodes.at[one + HEIGHT], two == NONE ? 0 : nodes.at[two + HEIGHT]);
            nodes.add(kind);
            nodes.add(first);
            nodes.add(second);
            nodes.add(height + 1);
            nodes.add(Math.min(ifFalse, MOST_TEXT_CLAUSES + 1));
            nodes.add(Math.min(ifTrue, MOST_TEXT_CLAUSES + 1));
            nodes.add(0);
            return nodes.size / NODE - 1;
        }

        private int get(int node, int what) {
            return nodes.at[node * NODE + what];
        }

        private int clausesOf(int node, boolean truth) {
            return get(node, truth ? IF_TRUE : IF_FALSE);
        }

        /** Finds the VARIABLES that are replaced somewhere, and makes their SYMBOLS. */
        void makeWitnesses() {
            for (int s = 0; s < sentences.size; s += SENTENCE) {
                boolean prove = sentences.at[s + PROVE] == 1;
                reach(sentences.at[s + ROOT], prove ? 1 : 2);
                replaceFree(s, prove);
            }
            for (int node = nodes.size / NODE - 1; node >= 0; node--) {
                reachParts(node, get(node, REACHED));
            }
            for (int v = 0; v < variables; v++) {
                witness[v] = replaced[v] ? symbols.addWitness(around(v)) : NONE;
            }
        }

        private void replaceFree(int sentence, boolean prove) {
            for (int i = sentences.at[sentence + FREE_FROM]; i < sentences.at[sentence + FREE_TO]; i++) {
                replaced[free[i]] = prove;
            }
        }

        /** Ways: 1 as false, 2 as true, 3 both. */
        private void reach(int node, int ways) {
            nodes.at[node * NODE + REACHED] |= ways;
        }

        private void reachParts(int node, int ways) {
            int turned = ways >> 1 | (ways & 1) << 1;
            int first = get(node, FIRST);
            int second = get(node, SECOND);
            switch (get(node, KIND)) {
                case NOT:
                    reach(first, turned);
                    break;
                case ALL:
                case SOME:
                    reach(first, ways);
                    replaced[second] = (ways & (get(node, KIND) == SOME ? 2 : 1)) != 0;
                    break;
                case AND:
                case OR:
                    reach(first, ways);
                    reach(second, ways);
                    break;
                case IMPLIES:
                    reach(first, turned);
                    reach(second, ways);
                    break;
                case EQUIVALENT:
                    reach(first, 3);
                    reach(second, 3);
                    break;
                default:
                    break;
            }
        }

        /** How many VARIABLES are bound around this one. */
        private int around(int v) {
            int s = sentenceOf[v];
            return outer[v] == FREE ? level[v] : level[v] + sentences.at[s + FREE_TO] - sentences.at[s + FREE_FROM];
        }

        /** The i-th of the VARIABLES that are bound around this one. */
        private int aroundAt(int v, int i) {
            int s = sentenceOf[v];
            int from = sentences.at[s + FREE_FROM];
            int freeOnes = sentences.at[s + FREE_TO] - from;
            if (i < freeOnes) {
                return free[from + i];
            }
            int x = v;
            for (int up = level[v] - (i - freeOnes); up > 0; up--) {
                x = outer[x];
            }
            return x;
        }

        /** Makes the CLAUSES: the place of the first SENTENCE that goes beyond a limit, or NONE. */
        int makeClauses(Draft draft, Store store) {
            int made = 0;
            for (int s = 0; s < sentences.size; s += SENTENCE) {
                int root = sentences.at[s + ROOT];
                boolean truth = sentences.at[s + PROVE] == 0;
                made += clausesOf(root, truth);
                if (get(root, HEIGHT) > HIGHEST || made > MOST_TEXT_CLAUSES) {
                    return sentences.at[s + PLACE];
                }
                for (int i = 0; i < clausesOf(root, truth); i++) {
                    writeClause(draft, root, truth, i);
                    if (draft.beyond) {
                        return sentences.at[s + PLACE];
                    }
                    draft.reduce();
                    if (!draft.isTautology()) {
                        store.add(draft, FROM_TEXT, NONE, NONE);
                    }
                }
            }
            return NONE;
        }

        /** Writes CLAUSE i of a node, so that the CLAUSES of the parts need not be kept. */
        private void writeClause(Draft draft, int root, boolean truth, int i) {
            draft.clear();
            pending.size = 0;
            later(root, truth, i);
            for (int guard = 0; guard < FAR && pending.size > 0 && !draft.beyond; guard++) {
                pending.size -= 3;
                int node = pending.at[pending.size];
                boolean isTrue = pending.at[pending.size + 1] == 1;
                writePart(draft, node, isTrue, pending.at[pending.size + 2]);
            }
        }

        private void later(int node, boolean truth, int i) {
            pending.add(node);
            pending.add(truth ? 1 : 0);
            pending.add(i);
        }

        private void writePart(Draft draft, int node, boolean truth, int i) {
            int kind = get(node, KIND);
            int first = get(node, FIRST);
            int second = get(node, SECOND);
            switch (kind) {
                case NOT:
                    later(first, !truth, i);
                    break;
                case ALL:
                case SOME:
                    replaced[second] = (kind == SOME) == truth;
                    later(first, truth, i);
                    break;
                case AND:
                case OR:
                    joined((kind == AND) == truth, first, truth, second, truth, i);
                    break;
                case IMPLIES:
                    joined(!truth, first, !truth, second, truth, i);
                    break;
                case EQUIVALENT:
                    equivalent(first, second, truth, i);
                    break;
                default:
                    writeLiteral(draft, (kind == EQUAL) == truth, first, second);
                    break;
            }
        }

        private void equivalent(int first, int second, boolean truth, int i) {
            int half = clausesOf(first, !truth) * clausesOf(second, true);
            if (i < half) {
                joined(false, first, !truth, second, true, i);
            } else if (truth) {
                joined(false, second, false, first, true, i - half);
            } else {
                joined(false, first, false, second, false, i - half);
            }
        }

        /** Both together have the CLAUSES of one, then of the other; one of them: each with each. */
        private void joined(boolean both, int first, boolean isFirst, int second, boolean isSecond, int i) {
            int width = Math.max(1, clausesOf(both ? first : second, both ? isFirst : isSecond));
            if (!both) {
                later(second, isSecond, i % width);
                later(first, isFirst, i / width);
            } else if (i < width) {
                later(first, isFirst, i);
            } else {
                later(second, isSecond, i - width);
            }
        }

        private void writeLiteral(Draft draft, boolean positive, int left, int right) {
            draft.openLiteral(positive);
            writeTerm(draft, left);
            draft.openRight();
            if (right == NONE) {
                draft.put(TRUE);
            } else {
                writeTerm(draft, right);
            }
            draft.closeLiteral();
        }

        private void writeTerm(Draft draft, int start) {
            int stop = symbols.after(terms.at, start);
            for (int i = start; i < stop && !draft.beyond; i++) {
                if (terms.at[i] < 0) {
                    writeVariable(draft, ~terms.at[i], 0);
                } else {
                    draft.put(terms.at[i]);
                }
            }
        }

        /** WITNESSES double with each level, so the BOUNDS end this long before the guard does. */
        private void writeVariable(Draft draft, int v, int depth) {
            if (!replaced[v]) {
                draft.put(draft.cellOf(v));
                return;
            }
            draft.put(witness[v]);
            int terms = around(v);
            if (depth > DEEPEST) {
                draft.beyond = true;
            }
            for (int i = 0; i < terms && !draft.beyond; i++) {
                writeVariable(draft, aroundAt(v, i), depth + 1);
            }
        }
    }

    /** Reads the TEXT with a row of open signs, so that nesting costs no calls but in TERMS. */
    private static final class Parser {
        int fault;
        int faultPlace;
        private final Words words = new Words();
        private final Symbols symbols;
        private final Formulas formulas;
        private final Row signs = new Row(64);
        private final Row firstBound = new Row(64);
        private final Row parts = new Row(64);
        private int depth;

        Parser(Symbols symbols, Formulas formulas) {
            this.symbols = symbols;
            this.formulas = formulas;
        }

        void parse(int[] text, int length) {
            fault = 0;
            faultPlace = 0;
            formulas.clear();
            words.open(text, length);
            for (int i = 0; i < FAR && fault == 0 && words.kind != TEXT_END; i++) {
                openSentence();
                boolean more = true;
                for (int j = 0; j < FAR && more; j++) {
                    takePrefixes();
                    takeAtom();
                    more = fault == 0 && takeSign();
                }
            }
        }

        private void openSentence() {
            boolean prove = words.isProve();
            formulas.openSentence(words.place, prove);
            signs.size = 0;
            firstBound.size = 0;
            parts.size = 0;
            depth = 0;
            if (prove) {
                words.advance();
            }
        }

        private void fail(int kind, int place) {
            fault = kind;
            faultPlace = place;
        }

        /** The present WORD or sign can't stand here. */
        private void refuse() {
            fail(words.excess ? TOO_LARGE : CANNOT_STAND, words.place);
        }

        /** All that may stand before an ATOM. */
        private void takePrefixes() {
            boolean more = true;
            for (int i = 0; i < FAR && more && fault == 0; i++) {
                if (depth > DEEPEST) {
                    fail(TOO_LARGE, words.place);
                } else if (words.isNow(NOT) || words.isNow(OPEN_SIGN)) {
                    push(words.kind, NONE);
                    words.advance();
                } else if (words.isNow(ALL) || words.isNow(SOME)) {
                    takeBound();
                } else {
                    more = false;
                }
            }
        }

        private void takeBound() {
            int kind = words.kind;
            int first = formulas.variables;
            words.advance();
            for (int i = 0; i < FAR && words.isNow(VARIABLE); i++) {
                if (formulas.bind(words) == NONE) {
                    fail(TOO_LARGE, words.place);
                    return;
                }
                words.advance();
            }
            if (formulas.variables == first || !words.isNow(COLON)) {
                refuse();
                return;
            }
            push(kind, first);
            words.advance();
        }

        private void takeAtom() {
            if (fault != 0) {
                return;
            }
            int place = words.place;
            int left = formulas.terms.size;
            if (words.isNow(VARIABLE)) {
                takeVariable();
                takeEquation(left);
                return;
            }
            int name = takeName();
            int terms = takeTerms(depth);
            if (fault != 0) {
                return;
            }
            boolean equation = words.kind == EQUAL || words.kind == UNEQUAL;
            settle(name, equation ? FUNCTION : PREDICATE, terms, place);
            if (equation) {
                takeEquation(left);
            } else {
                parts.add(formulas.addNode(EQUAL, left, NONE));
            }
        }

        private void takeEquation(int left) {
            int kind = words.kind;
            if (fault != 0) {
                return;
            }
            if (!words.isNow(EQUAL) && !words.isNow(UNEQUAL)) {
                refuse();
                return;
            }
            words.advance();
            int right = formulas.terms.size;
            takeTerm(depth);
            parts.add(formulas.addNode(kind, left, right));
        }

        private void takeTerm(int deep) {
            if (deep > DEEPEST) {
                fail(TOO_LARGE, words.place);
                return;
            }
            if (words.isNow(VARIABLE)) {
                takeVariable();
                return;
            }
            int place = words.place;
            int name = takeName();
            int terms = takeTerms(deep);
            settle(name, FUNCTION, terms, place);
        }

        /** The TERMS in ( ), if there are any: how many. */
        private int takeTerms(int deep) {
            if (fault != 0 || !words.isNow(OPEN_SIGN)) {
                return 0;
            }
            int terms = 0;
            boolean more = true;
            for (int i = 0; i < FAR && more; i++) {
                words.advance();
                takeTerm(deep + 1);
                terms++;
                more = fault == 0 && words.isNow(COMMA);
            }
            if (fault == 0) {
                if (words.isNow(CLOSE_SIGN)) {
                    words.advance();
                } else {
                    refuse();
                }
            }
            return terms;
        }

        private int takeName() {
            if (!words.isNow(NAME)) {
                refuse();
                return NONE;
            }
            int name = symbols.numberOf(words);
            if (name == NONE) {
                fail(TOO_LARGE, words.place);
                return NONE;
            }
            formulas.terms.add(name);
            words.advance();
            return name;
        }

        private void takeVariable() {
            int v = formulas.variableOf(words);
            if (v == NONE) {
                fail(TOO_LARGE, words.place);
                return;
            }
            formulas.terms.add(~v);
            words.advance();
        }

        private void settle(int name, int kind, int terms, int place) {
            if (fault == 0 && !symbols.settles(name, kind, terms)) {
                fail(NAME_CLASH, place);
            }
        }

        /** What stands behind a UNIT: true if another UNIT follows. */
        private boolean takeSign() {
            boolean closed = true;
            for (int i = 0; i < FAR && closed; i++) {
                closed = words.isNow(CLOSE_SIGN) && closeBracket();
            }
            int kind = words.excess ? BAD : words.kind;
            switch (kind) {
                case AND:
                case OR:
                    fold(strength(kind));
                    break;
                case IMPLIES:
                    fold(strength(OR));
                    break;
                case EQUIVALENT:
                    if (!mayBeEquivalent()) {
                        refuse();
                        return false;
                    }
                    break;
                case DOT:
                    closeSentence();
                    return false;
                default:
                    refuse();
                    return false;
            }
            push(kind, NONE);
            words.advance();
            return true;
        }

        /** False if no ( is open. */
        private boolean closeBracket() {
            fold(strength(ALL));
            if (signs.size == 0) {
                return false;
            }
            pop();
            words.advance();
            return true;
        }

        private void closeSentence() {
            fold(strength(ALL));
            if (signs.size > 0 || parts.size != 1) {
                refuse();
                return;
            }
            formulas.closeSentence(parts.at[0]);
            words.advance();
        }

        /** A second one ends the FORMULA; it may yet be the first one of what is around a ! or ?. */
        private boolean mayBeEquivalent() {
            fold(strength(IMPLIES));
            for (int i = 0; i < FAR && top() == EQUIVALENT; i++) {
                foldTop();
                if (top() != ALL && top() != SOME) {
                    return false;
                }
                foldTop();
                fold(strength(IMPLIES));
            }
            return true;
        }

        private int top() {
            return signs.size == 0 ? TEXT_END : signs.at[signs.size - 1];
        }

        private static int strength(int sign) {
            switch (sign) {
                case NOT: return 6;
                case AND: return 5;
                case OR: return 4;
                case IMPLIES: return 3;
                case EQUIVALENT: return 2;
                case ALL:
                case SOME: return 1;
                default: return 0;
            }
        }

        private static boolean isNest(int sign) {
            return sign == NOT || sign == OPEN_SIGN || sign == ALL || sign == SOME || sign == IMPLIES;
        }

        private void push(int sign, int bound) {
            signs.add(sign);
            firstBound.add(bound);
            depth += isNest(sign) ? 1 : 0;
        }

        private void pop() {
            depth -= isNest(top()) ? 1 : 0;
            signs.size--;
            firstBound.size--;
        }

        /** Makes FORMULAS of all signs on top that bind at least as strongly. */
        private void fold(int least) {
            for (int i = 0; i < FAR && strength(top()) >= least; i++) {
                foldTop();
            }
        }

        private void foldTop() {
            int sign = top();
            int whole = parts.at[parts.size - 1];
            if (sign == NOT) {
                whole = formulas.addNode(NOT, whole, NONE);
            } else if (sign == ALL || sign == SOME) {
                int v = formulas.scope;
                for (int i = 0; i < MOST_BOUND && v >= firstBound.at[firstBound.size - 1]; i++) {
                    whole = formulas.addNode(sign, whole, v);
                    v = formulas.outer[v];
                }
                formulas.scope = v;
            } else {
                parts.size--;
                whole = formulas.addNode(sign, parts.at[parts.size - 1], whole);
            }
            parts.at[parts.size - 1] = whole;
            pop();
        }
    }

    /** A CLAUSE that is being made: its LITERALS lie one behind the other, left before right. */
    private static final class Draft {
        final int[] cell = new int[MOST_WEIGHT];
        final int[] start = new int[MOST_LITERALS + 1];
        final int[] middle = new int[MOST_LITERALS];
        final boolean[] positive = new boolean[MOST_LITERALS];
        int used;
        int literals;
        /** How many VARIABLES are in it, once it is REDUCED. */
        int variables;
        /** It went beyond the BOUNDS, and what it holds is of no use. */
        boolean beyond;
        private final Symbols symbols;
        private final int[] slot = new int[MOST_BOUND];
        private final int[] met = new int[MOST_VARIABLES];
        private int metSize;
        private final int[] renamed = new int[MOST_VARIABLES];

        Draft(Symbols symbols) {
            this.symbols = symbols;
            Arrays.fill(slot, NONE);
        }

        void clear() {
            for (int i = 0; i < metSize; i++) {
                slot[met[i]] = NONE;
            }
            metSize = 0;
            used = 0;
            literals = 0;
            beyond = false;
        }

        void openLiteral(boolean isPositive) {
            if (literals == MOST_LITERALS) {
                beyond = true;
                return;
            }
            positive[literals] = isPositive;
            start[literals] = used;
        }

        void openRight() {
            if (!beyond) {
                middle[literals] = used;
            }
        }

        void closeLiteral() {
            if (!beyond) {
                literals++;
                start[literals] = used;
            }
        }

        void put(int number) {
            if (used == MOST_WEIGHT) {
                beyond = true;
            }
            if (!beyond) {
                cell[used++] = number;
            }
        }

        /** What a VARIABLE is written as: those of one CLAUSE get numbers as they come. */
        int cellOf(int v) {
            if (slot[v] == NONE && metSize == MOST_VARIABLES) {
                beyond = true;
            } else if (slot[v] == NONE) {
                met[metSize] = v;
                slot[v] = metSize++;
            }
            return ~Math.max(slot[v], 0);
        }

        /** A copy of a CLAUSE, with its VARIABLES as they are. */
        void load(Store store, int k) {
            clear();
            int[] cells = store.cells.at;
            int head = store.fact(k, Store.START);
            for (int i = 0; i < store.fact(k, Store.LITERALS); i++) {
                openLiteral(cells[head + Store.SIGN] == 1);
                for (int p = store.sideAt(head, 0); p < store.behind(head); p++) {
                    if (p == store.sideAt(head, 1)) {
                        openRight();
                    }
                    put(cells[p]);
                }
                closeLiteral();
                head = store.behind(head);
            }
        }

        /** Puts a TERM, which is not larger, for the one at p. */
        void replace(int p, int[] image, int size) {
            int stop = symbols.after(cell, p);
            int less = stop - p - size;
            System.arraycopy(image, 0, cell, p, size);
            System.arraycopy(cell, stop, cell, p + size, used - stop);
            used -= less;
            for (int i = 0; i < literals; i++) {
                middle[i] -= middle[i] > p ? less : 0;
                start[i + 1] -= start[i + 1] > p ? less : 0;
            }
        }

        /** Makes it REDUCED. */
        void reduce() {
            int kept = 0;
            int free = 0;
            for (int i = 0; i < literals; i++) {
                int from = start[i];
                int size = start[i + 1] - from;
                int left = middle[i] - from;
                boolean goes = !positive[i] && isSame(from, left, middle[i], size - left);
                for (int j = 0; j < kept && !goes; j++) {
                    goes = positive[j] == positive[i] && hasSameSides(i, j);
                }
                if (!goes) {
                    System.arraycopy(cell, from, cell, free, size);
                    positive[kept] = positive[i];
                    start[kept] = free;
                    middle[kept] = free + left;
                    kept++;
                    free += size;
                    start[kept] = free;
                }
            }
            literals = kept;
            used = free;
            renumber();
        }

        private boolean hasSameSides(int i, int j) {
            int left = middle[i] - start[i];
            int right = start[i + 1] - middle[i];
            int otherLeft = middle[j] - start[j];
            int otherRight = start[j + 1] - middle[j];
            return isSame(start[i], left, start[j], otherLeft) && isSame(middle[i], right, middle[j], otherRight)
                || isSame(start[i], left, middle[j], otherRight) && isSame(middle[i], right, start[j], otherLeft);
        }

        private boolean isSame(int p, int n, int q, int m) {
            boolean same = n == m;
            for (int i = 0; i < n && same; i++) {
                same = cell[p + i] == cell[q + i];
            }
            return same;
        }

        private void renumber() {
            Arrays.fill(renamed, NONE);
            variables = 0;
            for (int p = 0; p < used; p++) {
                if (cell[p] < 0) {
                    int v = ~cell[p];
                    if (renamed[v] == NONE) {
                        renamed[v] = variables++;
                    }
                    cell[p] = ~renamed[v];
                }
            }
        }

        boolean isTautology() {
            for (int i = 0; i < literals; i++) {
                int left = middle[i] - start[i];
                if (positive[i] && isSame(start[i], left, middle[i], start[i + 1] - middle[i])) {
                    return true;
                }
                for (int j = 0; j < i; j++) {
                    if (positive[i] != positive[j] && hasSameSides(i, j)) {
                        return true;
                    }
                }
            }
            return false;
        }
    }

    /** All CLAUSES with what is known of them, and the order of their LITERALS. */
    private static final class Store {
        static final int ORIGIN = 0;
        static final int PARENT = 1;
        static final int TARGET = 2;
        static final int LITERALS = 3;
        static final int WEIGHT = 4;
        static final int VARIABLES = 5;
        static final int STATUS = 6;
        static final int REWROTE = 7;
        static final int START = 8;
        static final int REWRITERS = 9;
        static final int IN_PROOF = 10;
        private static final int FACTS = 11;

        /** Each LITERAL has these in front of its sides; ORDER and ELIGIBLE are set by judge. */
        static final int SIGN = 0;
        static final int ORDER = 1;
        static final int ELIGIBLE = 2;
        static final int LEFT = 3;
        static final int RIGHT = 4;
        private static final int HEAD = 5;

        final Row cells = new Row(512);
        final Row rewriters = new Row(16);
        int size;
        int textSize;
        private final Symbols symbols;
        private final Row facts = new Row(256);

        Store(Symbols symbols) {
            this.symbols = symbols;
        }

        void clear() {
            cells.size = 0;
            rewriters.size = 0;
            facts.size = 0;
            size = 0;
            textSize = 0;
        }

        boolean has(int k) {
            return k >= 0 && k < size;
        }

        int fact(int k, int what) {
            return facts.at[k * FACTS + what];
        }

        void setFact(int k, int what, int number) {
            facts.at[k * FACTS + what] = number;
        }

        int howMany(int status) {
            int n = 0;
            for (int k = 0; k < size; k++) {
                n += fact(k, STATUS) == status ? 1 : 0;
            }
            return n;
        }

        /** Keeps a REDUCED draft as a new CLAUSE, PASSIVE: its number. */
        int add(Draft draft, int origin, int parent, int target) {
            facts.add(origin);
            facts.add(parent);
            facts.add(target);
            facts.add(draft.literals);
            facts.add(draft.used);
            facts.add(draft.variables);
            facts.add(PASSIVE);
            facts.add(0);
            facts.add(cells.size);
            facts.add(rewriters.size);
            facts.add(0);
            for (int i = 0; i < draft.literals; i++) {
                cells.add(draft.positive[i] ? 1 : 0);
                cells.add(0);
                cells.add(0);
                cells.add(draft.middle[i] - draft.start[i]);
                cells.add(draft.start[i + 1] - draft.middle[i]);
                for (int p = draft.start[i]; p < draft.start[i + 1]; p++) {
                    cells.add(draft.cell[p]);
                }
            }
            return size++;
        }

        int headOf(int k, int i) {
            int head = fact(k, START);
            for (int j = 0; j < i; j++) {
                head = behind(head);
            }
            return head;
        }

        /** The head of the LITERAL behind this one. */
        int behind(int head) {
            return head + HEAD + cells.at[head + LEFT] + cells.at[head + RIGHT];
        }

        /** Where the left side, 0, or the right one, 1, begins. */
        int sideAt(int head, int side) {
            return head + HEAD + (side == 0 ? 0 : cells.at[head + LEFT]);
        }

        int sideSize(int head, int side) {
            return cells.at[head + (side == 0 ? LEFT : RIGHT)];
        }

        boolean isPositive(int head) {
            return cells.at[head + SIGN] == 1;
        }

        boolean isEligible(int head) {
            return cells.at[head + ELIGIBLE] == 1;
        }

        boolean isUsable(int head, int side) {
            int order = cells.at[head + ORDER];
            return order == 0 || order == side + 1;
        }

        /** Finds which sides are GREATER and which LITERALS are ELIGIBLE; only some ever need it. */
        void judge(int k) {
            int selected = selectedOf(k);
            int head = fact(k, START);
            for (int i = 0; i < fact(k, LITERALS); i++) {
                int left = sideAt(head, 0);
                int right = sideAt(head, 1);
                boolean eligible = selected == NONE ? isTopmost(k, head) : selected == head;
                cells.at[head + ORDER] = symbols.greater(cells.at, left, cells.at, right) ? 1
                    : symbols.greater(cells.at, right, cells.at, left) ? 2 : 0;
                cells.at[head + ELIGIBLE] = eligible ? 1 : 0;
                head = behind(head);
            }
        }

        /** The head of the SELECTED LITERAL, or NONE. */
        int selectedOf(int k) {
            int best = NONE;
            int bestWeight = 0;
            int head = fact(k, START);
            for (int i = 0; i < fact(k, LITERALS); i++) {
                int weight = cells.at[head + LEFT] + cells.at[head + RIGHT];
                if (!isPositive(head) && weight > bestWeight) {
                    best = head;
                    bestWeight = weight;
                }
                head = behind(head);
            }
            return best;
        }

        private boolean isTopmost(int k, int head) {
            int other = fact(k, START);
            for (int i = 0; i < fact(k, LITERALS); i++) {
                if (other != head && isGreater(other, head)) {
                    return false;
                }
                other = behind(other);
            }
            return true;
        }

        /** Asked only where no != is in the CLAUSE, so that each LITERAL is just its two sides. */
        private boolean isGreater(int one, int two) {
            int oneLeft = 3;
            int twoLeft = 3;
            for (int i = 0; i < 2; i++) {
                for (int j = 0; j < 2; j++) {
                    boolean both = (oneLeft >> i & 1) == 1 && (twoLeft >> j & 1) == 1;
                    if (both && symbols.same(cells.at, sideAt(one, i), cells.at, sideAt(two, j))) {
                        oneLeft &= ~(1 << i);
                        twoLeft &= ~(1 << j);
                    }
                }
            }
            for (int j = 0; j < 2; j++) {
                boolean below = (twoLeft >> j & 1) == 0;
                for (int i = 0; i < 2 && !below; i++) {
                    below = (oneLeft >> i & 1) == 1
                        && symbols.greater(cells.at, sideAt(one, i), cells.at, sideAt(two, j));
                }
                if (!below) {
                    return false;
                }
            }
            return oneLeft != 0;
        }
    }

    /**
     * The most general values that make TERMS of at most two CLAUSES the same. A VARIABLE has a slot,
     * its number, with SECOND more in the second CLAUSE. Slots that became one have the same root, and
     * a root has a TERM as its value, or none.
     */
    private static final class Unifier {
        static final int SECOND = MOST_VARIABLES;
        private static final int SLOTS = 2 * MOST_VARIABLES;
        private static final int CLAUSE_CELLS = MOST_WEIGHT + MOST_LITERALS * Store.HEAD;
        /** Each level goes into one more value, and no value is within itself. */
        private static final int DEEP = 4 * SLOTS;

        private final Symbols symbols;
        private final Row cells;
        private final int[] root = new int[SLOTS];
        private final int[] place = new int[SLOTS];
        private final int[] shifts = new int[SLOTS];
        private int valued;
        private int firstBase;
        private int secondBase;
        /** Has a slot met a TERM before: to do so again could take exponential time. */
        private final boolean[] met = new boolean[SLOTS * 2 * CLAUSE_CELLS];
        /** Where met is true: these alone are undone, as there are billions of unifications. */
        private final Row meetings = new Row(16);

        Unifier(Symbols symbols, Row cells) {
            this.symbols = symbols;
            this.cells = cells;
        }

        /** Begins anew, for CLAUSES that lie at these places. */
        void clear(int firstStart, int secondStart) {
            for (int x = 0; x < SLOTS; x++) {
                root[x] = x;
                place[x] = NONE;
            }
            valued = 0;
            firstBase = firstStart;
            secondBase = secondStart;
            for (int i = 0; i < meetings.size; i++) {
                met[meetings.at[i]] = false;
            }
            meetings.size = 0;
        }

        private boolean unite(int p, int pShift, int q, int qShift, int depth) {
            if (depth > DEEP) {
                return false;
            }
            int[] c = cells.at;
            int s = p;
            int t = q;
            int need = 1;
            for (int i = 0; i < MOST_WEIGHT && need > 0; i++) {
                if (c[s] < 0 || c[t] < 0) {
                    if (!uniteVariable(s, pShift, t, qShift, depth)) {
                        return false;
                    }
                    s = symbols.after(c, s);
                    t = symbols.after(c, t);
                    need--;
                } else if (c[s] != c[t]) {
                    return false;
                } else {
                    need += symbols.arity[c[s]] - 1;
                    s++;
                    t++;
                }
            }
            return true;
        }

        private boolean uniteVariable(int p, int pShift, int q, int qShift, int depth) {
            int x = cells.at[p] < 0 ? root[~cells.at[p] + pShift] : NONE;
            int y = cells.at[q] < 0 ? root[~cells.at[q] + qShift] : NONE;
            if (x == y) {
                return true;
            }
            if (x == NONE) {
                return meet(y, p, pShift, depth);
            }
            if (y == NONE) {
                return meet(x, q, qShift, depth);
            }
            return join(x, y, depth);
        }

        /** A root meets a TERM that is no VARIABLE. */
        private boolean meet(int x, int p, int shift, int depth) {
            if (place[x] == NONE) {
                if (symbols.isPredicate(cells.at[p]) || occurs(x, p, shift)) {
                    return false;
                }
                place[x] = p;
                shifts[x] = shift;
                valued |= 1 << x;
                return true;
            }
            int half = shift == 0 ? 0 : 1;
            int at = (2 * x + half) * CLAUSE_CELLS + p - (shift == 0 ? firstBase : secondBase);
            if (at >= 0 && at < met.length) {
                if (met[at]) {
                    return true;
                }
                met[at] = true;
                meetings.add(at);
            }
            return unite(place[x], shifts[x], p, shift, depth + 1);
        }

        /** Two roots become one, and their values the same. */
        private boolean join(int x, int y, int depth) {
            if (place[y] != NONE && occurs(x, place[y], shifts[y])
                || place[x] != NONE && occurs(y, place[x], shifts[x])) {
                return false;
            }
            int goes = place[x] == NONE ? x : y;
            int stays = x + y - goes;
            for (int slot = 0; slot < SLOTS; slot++) {
                root[slot] = root[slot] == goes ? stays : root[slot];
            }
            valued &= ~(1 << goes);
            return place[goes] == NONE
                || unite(place[goes], shifts[goes], place[stays], shifts[stays], depth + 1);
        }

        /** Is the root in the TERM, or in a value within it; each value is looked at once. */
        private boolean occurs(int x, int p, int shift) {
            int found = 0;
            int done = 0;
            int from = p;
            int fromShift = shift;
            for (int round = 0; round <= SLOTS; round++) {
                int need = 1;
                for (int i = from; need > 0 && i < cells.size; i++) {
                    int c = cells.at[i];
                    need += c < 0 ? -1 : symbols.arity[c] - 1;
                    found |= c < 0 ? 1 << root[~c + fromShift] : 0;
                }
                int fresh = found & valued & ~done;
                if ((found >> x & 1) == 1 || fresh == 0) {
                    break;
                }
                int next = Integer.numberOfTrailingZeros(fresh);
                done |= 1 << next;
                from = place[next];
                fromShift = shifts[next];
            }
            return (found >> x & 1) == 1;
        }

        /** Writes cells with the values of their VARIABLES. */
        private void write(Draft draft, int from, int to, int shift, int depth) {
            for (int i = from; i < to && !draft.beyond && depth <= SLOTS; i++) {
                int c = cells.at[i];
                int x = c < 0 ? root[~c + shift] : NONE;
                if (x == NONE) {
                    draft.put(c);
                } else if (place[x] == NONE) {
                    draft.put(draft.cellOf(x));
                } else {
                    write(draft, place[x], symbols.after(cells.at, place[x]), shifts[x], depth + 1);
                }
            }
        }
    }

    /** Finds values for the VARIABLES of one CLAUSE alone: for REWRITING and for SUBSUMES. */
    private static final class Matcher {
        private final Symbols symbols;
        private final Store store;
        private final int[] value = new int[MOST_VARIABLES];
        private int known;
        private final int[] image = new int[MOST_WEIGHT];
        private int imageSize;

        Matcher(Symbols symbols, Store store) {
            this.symbols = symbols;
            this.store = store;
        }

        /** Adds values that make the n cells at p the TERM at t. */
        private boolean matches(int p, int n, int[] target, int t) {
            int[] c = store.cells.at;
            int at = t;
            for (int i = p; i < p + n; i++) {
                if (c[i] >= 0) {
                    if (c[i] != target[at]) {
                        return false;
                    }
                    at++;
                    continue;
                }
                int v = ~c[i];
                if ((known >> v & 1) == 0) {
                    if (target[at] >= 0 && symbols.isPredicate(target[at])) {
                        return false;
                    }
                    value[v] = at;
                    known |= 1 << v;
                } else if (!symbols.same(target, value[v], target, at)) {
                    return false;
                }
                at = symbols.after(target, at);
            }
            return true;
        }

        /** Could this side of the single = of CLAUSE k REWRITE the TERM at t: the image is what by. */
        private boolean rewrites(int k, int side, int[] target, int t) {
            int head = store.fact(k, Store.START);
            int left = store.sideAt(head, side);
            int top = store.cells.at[left];
            if (top >= 0 && top != target[t]) {
                return false;
            }
            known = 0;
            if (!matches(left, store.sideSize(head, side), target, t)) {
                return false;
            }
            int right = store.sideAt(head, 1 - side);
            int room = symbols.after(target, t) - t;
            return makeImage(right, store.sideSize(head, 1 - side), target, room)
                && symbols.greater(target, t, image, 0);
        }

        /** False if a VARIABLE has no value, or if it is too large for the other to be GREATER. */
        private boolean makeImage(int p, int n, int[] target, int room) {
            imageSize = 0;
            for (int i = p; i < p + n; i++) {
                int c = store.cells.at[i];
                if (c < 0 && (known >> ~c & 1) == 0) {
                    return false;
                }
                int from = c < 0 ? value[~c] : 0;
                int size = c < 0 ? symbols.after(target, from) - from : 1;
                if (imageSize + size > room || imageSize + size > image.length) {
                    return false;
                }
                if (c < 0) {
                    System.arraycopy(target, from, image, imageSize, size);
                } else {
                    image[imageSize] = c;
                }
                imageSize += size;
            }
            return true;
        }

        /** REWRITES the first place of the draft that one of these CLAUSES can: which did, or NONE. */
        int rewriteFirst(Draft draft, Row singles) {
            for (int p = 0; p < draft.used; p++) {
                for (int i = 0; draft.cell[p] >= 0 && i < singles.size; i++) {
                    int k = singles.at[i];
                    if (rewrites(k, 0, draft.cell, p) || rewrites(k, 1, draft.cell, p)) {
                        draft.replace(p, image, imageSize);
                        return k;
                    }
                }
            }
            return NONE;
        }

        /** Is there a place in CLAUSE d where CLAUSE k, a single =, could REWRITE. */
        boolean rewritesIn(int k, int d) {
            int head = store.fact(d, Store.START);
            int[] c = store.cells.at;
            for (int i = 0; i < store.fact(d, Store.LITERALS); i++) {
                int stop = store.behind(head);
                for (int p = store.sideAt(head, 0); p < stop; p++) {
                    if (c[p] >= 0 && (rewrites(k, 0, c, p) || rewrites(k, 1, c, p))) {
                        return true;
                    }
                }
                head = stop;
            }
            return false;
        }

        /** LITERALS that are none of d's even alone are found first: trying all ways is dear. */
        boolean subsumes(int c, int d) {
            int literals = store.fact(c, Store.LITERALS);
            boolean may = literals <= store.fact(d, Store.LITERALS);
            int head = store.fact(c, Store.START);
            for (int i = 0; i < literals && may; i++) {
                known = 0;
                may = coversAll(head, 1, d);
                head = store.behind(head);
            }
            known = 0;
            return may && (literals == 1 || coversAll(store.fact(c, Store.START), literals, d));
        }

        /** Can the LITERAL at this head, and those behind it, so many in all, be LITERALS of d. */
        private boolean coversAll(int head, int literals, int d) {
            if (literals <= 0) {
                return true;
            }
            int before = known;
            int other = store.fact(d, Store.START);
            for (int i = 0; i < store.fact(d, Store.LITERALS); i++) {
                for (int side = 0; side < 2 && store.isPositive(head) == store.isPositive(other); side++) {
                    known = before;
                    int left = store.sideAt(other, side);
                    int right = store.sideAt(other, 1 - side);
                    if (matches(store.sideAt(head, 0), store.sideSize(head, 0), store.cells.at, left)
                        && matches(store.sideAt(head, 1), store.sideSize(head, 1), store.cells.at, right)
                        && coversAll(store.behind(head), literals - 1, d)) {
                        return true;
                    }
                }
                other = store.behind(other);
            }
            return false;
        }
    }

    /** Does the STEPS, and counts what they do. */
    private static final class Saturation {
        int state;
        int steps;
        int inferences;
        int dropped;
        int subsumed;
        int rewritten;
        int tautologies;
        final Row proofRow = new Row(16);
        private final Symbols symbols;
        private final Store store;
        private final Draft draft;
        private final Unifier unifier;
        private final Matcher matcher;
        private final Row singles = new Row(16);

        Saturation(Symbols symbols, Store store, Draft draft) {
            this.symbols = symbols;
            this.store = store;
            this.draft = draft;
            this.unifier = new Unifier(symbols, store.cells);
            this.matcher = new Matcher(symbols, store);
        }

        void clear() {
            state = OPEN;
            steps = 0;
            inferences = 0;
            dropped = 0;
            subsumed = 0;
            rewritten = 0;
            tautologies = 0;
            proofRow.size = 0;
        }

        /** Begins a STEP: the GIVEN, PROCESSED, or NONE if nothing is to be inferred from it. */
        int takeGiven() {
            int given = choose();
            if (given == NONE) {
                state = SATURATED;
                return NONE;
            }
            steps++;
            store.setFact(given, Store.STATUS, GONE);
            if (store.fact(given, Store.LITERALS) > 0) {
                given = rewrite(given);
            }
            if (given == NONE) {
                return NONE;
            }
            if (store.fact(given, Store.LITERALS) == 0) {
                refute(given);
                return NONE;
            }
            if (isSubsumed(given)) {
                subsumed++;
                return NONE;
            }
            clearAway(given);
            store.setFact(given, Store.STATUS, PROCESSED);
            store.judge(given);
            return given;
        }

        private int choose() {
            boolean oldest = (steps + 1) % OLDEST_EACH == 0;
            int best = NONE;
            for (int k = 0; k < store.size; k++) {
                if (store.fact(k, Store.STATUS) == PASSIVE) {
                    if (oldest) {
                        return k;
                    }
                    if (best == NONE || store.fact(k, Store.WEIGHT) < store.fact(best, Store.WEIGHT)) {
                        best = k;
                    }
                }
            }
            return best;
        }

        private boolean isSingle(int k) {
            return store.fact(k, Store.LITERALS) == 1 && store.isPositive(store.fact(k, Store.START));
        }

        private boolean isProcessed(int k) {
            return store.fact(k, Store.STATUS) == PROCESSED;
        }

        /** The GIVEN after REWRITING, NONE if the STEP is over. */
        private int rewrite(int given) {
            listSingles();
            draft.load(store, given);
            int from = store.rewriters.size;
            int times = 0;
            for (; times < MOST_REWRITES; times++) {
                int by = matcher.rewriteFirst(draft, singles);
                if (by == NONE) {
                    break;
                }
                noteRewriter(from, by);
            }
            if (times == 0) {
                return given;
            }
            rewritten += times;
            draft.reduce();
            int made = keepRewritten(given, from);
            if (made == NONE) {
                store.rewriters.size = from;
            }
            return made;
        }

        private void listSingles() {
            singles.size = 0;
            for (int k = 0; k < store.size; k++) {
                if (isProcessed(k) && isSingle(k)) {
                    singles.add(k);
                }
            }
        }

        private void noteRewriter(int from, int k) {
            for (int i = from; i < store.rewriters.size; i++) {
                if (store.rewriters.at[i] == k) {
                    return;
                }
            }
            store.rewriters.add(k);
        }

        private int keepRewritten(int given, int from) {
            if (draft.isTautology()) {
                tautologies++;
                return NONE;
            }
            if (store.size == MOST_CLAUSES) {
                state = FULL;
                return NONE;
            }
            int made = store.add(draft, REWRITING, given, NONE);
            store.setFact(made, Store.STATUS, GONE);
            store.setFact(made, Store.REWROTE, store.rewriters.size - from);
            store.setFact(made, Store.REWRITERS, from);
            return made;
        }

        private void refute(int empty) {
            state = REFUTED;
            markProof(empty);
            for (int k = empty; k >= 0; k--) {
                if (store.fact(k, Store.IN_PROOF) == 1) {
                    markProof(store.fact(k, Store.PARENT));
                    markProof(store.fact(k, Store.TARGET));
                    for (int i = 0; i < store.fact(k, Store.REWROTE); i++) {
                        markProof(store.rewriters.at[store.fact(k, Store.REWRITERS) + i]);
                    }
                }
            }
            for (int k = 0; k <= empty; k++) {
                if (store.fact(k, Store.IN_PROOF) == 1) {
                    proofRow.add(k);
                }
            }
        }

        private void markProof(int k) {
            if (store.has(k)) {
                store.setFact(k, Store.IN_PROOF, 1);
            }
        }

        private boolean isSubsumed(int given) {
            for (int k = 0; k < store.size; k++) {
                if (isProcessed(k) && matcher.subsumes(k, given)) {
                    return true;
                }
            }
            return false;
        }

        /** Takes away what the GIVEN SUBSUMES, and takes back what it could REWRITE. */
        private void clearAway(int given) {
            boolean single = isSingle(given);
            for (int k = 0; k < store.size; k++) {
                if (isProcessed(k)) {
                    if (matcher.subsumes(given, k)) {
                        store.setFact(k, Store.STATUS, GONE);
                        subsumed++;
                    } else if (single && matcher.rewritesIn(given, k)) {
                        store.setFact(k, Store.STATUS, PASSIVE);
                    }
                }
            }
        }

        void inferFrom(int given) {
            int last = store.size;
            for (int k = 0; k < last && state == OPEN; k++) {
                if (isProcessed(k)) {
                    superpose(k, given);
                    if (k != given) {
                        superpose(given, k);
                    }
                }
            }
            if (store.selectedOf(given) == NONE) {
                factor(given);
            } else {
                resolve(given, store.selectedOf(given));
            }
        }

        /** Goes through the sides of a, and for each of them through those of b. */
        private void superpose(int a, int b) {
            int sidesA = 2 * store.fact(a, Store.LITERALS);
            int sidesB = 2 * store.fact(b, Store.LITERALS);
            for (int i = 0; i < sidesA; i++) {
                int headA = store.headOf(a, i >> 1);
                boolean may = store.isPositive(headA) && store.isEligible(headA) && store.isUsable(headA, i & 1);
                for (int j = 0; j < sidesB && may; j++) {
                    int headB = store.headOf(b, j >> 1);
                    if (store.isEligible(headB) && store.isUsable(headB, j & 1)) {
                        superposeInto(a, headA, i & 1, b, headB, j & 1);
                    }
                }
            }
        }

        private void superposeInto(int a, int headA, int sideA, int b, int headB, int sideB) {
            int left = store.sideAt(headA, sideA);
            int from = store.sideAt(headB, sideB);
            int to = from + store.sideSize(headB, sideB);
            for (int u = from; u < to && state == OPEN; u++) {
                int top = store.cells.at[left];
                int met = store.cells.at[u];
                if (met < 0 || top >= 0 && top != met) {
                    continue;
                }
                unifier.clear(store.fact(a, Store.START), store.fact(b, Store.START));
                if (unifier.unite(left, 0, u, Unifier.SECOND, 0)) {
                    draft.clear();
                    writeOthers(a, headA, NONE, 0);
                    writeReplaced(b, u, headA, 1 - sideA);
                    keep(SUPERPOSITION, a, b);
                }
            }
        }

        /** The LITERALS of a CLAUSE but those at these heads. */
        private void writeOthers(int k, int without, int nor, int shift) {
            int head = store.fact(k, Store.START);
            for (int i = 0; i < store.fact(k, Store.LITERALS); i++) {
                if (head != without && head != nor) {
                    int right = store.sideAt(head, 1);
                    draft.openLiteral(store.isPositive(head));
                    unifier.write(draft, store.sideAt(head, 0), right, shift, 0);
                    draft.openRight();
                    unifier.write(draft, right, store.behind(head), shift, 0);
                    draft.closeLiteral();
                }
                head = store.behind(head);
            }
        }

        /** The LITERALS of b with that side of a LITERAL of the first CLAUSE for the TERM at u. */
        private void writeReplaced(int b, int u, int headA, int side) {
            int head = store.fact(b, Store.START);
            for (int i = 0; i < store.fact(b, Store.LITERALS); i++) {
                int right = store.sideAt(head, 1);
                draft.openLiteral(store.isPositive(head));
                writeRange(store.sideAt(head, 0), right, u, headA, side);
                draft.openRight();
                writeRange(right, store.behind(head), u, headA, side);
                draft.closeLiteral();
                head = store.behind(head);
            }
        }

        private void writeRange(int from, int to, int u, int headA, int side) {
            if (u < from || u >= to) {
                unifier.write(draft, from, to, Unifier.SECOND, 0);
                return;
            }
            int image = store.sideAt(headA, side);
            unifier.write(draft, from, u, Unifier.SECOND, 0);
            unifier.write(draft, image, image + store.sideSize(headA, side), 0, 0);
            unifier.write(draft, symbols.after(store.cells.at, u), to, Unifier.SECOND, 0);
        }

        /** One more INFERENCE: it is in the draft. */
        private void keep(int origin, int parent, int target) {
            inferences++;
            if (draft.beyond) {
                dropped++;
                return;
            }
            draft.reduce();
            if (draft.isTautology()) {
                tautologies++;
            } else if (store.size == MOST_CLAUSES) {
                state = FULL;
            } else {
                store.add(draft, origin, parent, target);
            }
        }

        /** Where there is a != at all, the SELECTED one alone is ELIGIBLE. */
        private void resolve(int given, int head) {
            int start = store.fact(given, Store.START);
            unifier.clear(start, start);
            if (state == OPEN && unifier.unite(store.sideAt(head, 0), 0, store.sideAt(head, 1), 0, 0)) {
                draft.clear();
                writeOthers(given, head, NONE, 0);
                keep(RESOLUTION, given, NONE);
            }
        }

        /** Comes only where no LITERAL is a !=. */
        private void factor(int given) {
            int literals = store.fact(given, Store.LITERALS);
            for (int i = 0; i < literals; i++) {
                int one = store.headOf(given, i);
                for (int j = 0; j < literals && store.isEligible(one); j++) {
                    if (i != j) {
                        factorTwo(given, one, store.headOf(given, j));
                    }
                }
            }
        }

        private void factorTwo(int given, int one, int two) {
            int start = store.fact(given, Store.START);
            for (int sides = 0; sides < 4 && state == OPEN; sides++) {
                int s = sides >> 1;
                int v = sides & 1;
                if (!store.isUsable(one, s)) {
                    continue;
                }
                unifier.clear(start, start);
                if (unifier.unite(store.sideAt(one, s), 0, store.sideAt(two, v), 0, 0)) {
                    draft.clear();
                    writeOthers(given, one, two, 0);
                    writePair(false, one, 1 - s, two, 1 - v);
                    writePair(true, one, s, two, 1 - v);
                    keep(FACTORING, given, NONE);
                }
            }
        }

        private void writePair(boolean positive, int one, int side, int two, int otherSide) {
            int left = store.sideAt(one, side);
            int right = store.sideAt(two, otherSide);
            draft.openLiteral(positive);
            unifier.write(draft, left, left + store.sideSize(one, side), 0, 0);
            draft.openRight();
            unifier.write(draft, right, right + store.sideSize(two, otherSide), 0, 0);
            draft.closeLiteral();
        }
    }

    /** Looks at CLAUSES in an INTERPRETATION. */
    private static final class Model {
        private static final int LOW_BITS = 0x7fffffff;
        private static final int FACTOR = 739982445;

        private final Symbols symbols;
        private final Store store;
        private final int[] element = new int[MOST_VARIABLES];
        private final int[] values = new int[MOST_WEIGHT + 1];
        private int seed;
        private int elements = 1;

        Model(Symbols symbols, Store store) {
            this.symbols = symbols;
            this.store = store;
        }

        /** Takes this INTERPRETATION: are all CLAUSES of the TEXT true in it. */
        boolean suitsText(int newSeed, int m) {
            seed = newSeed;
            elements = m;
            for (int k = 0; k < store.textSize; k++) {
                if (!makesTrue(k)) {
                    return false;
                }
            }
            return true;
        }

        boolean makesTrue(int k) {
            int variables = store.fact(k, Store.VARIABLES);
            int ways = 1;
            for (int v = 0; v < variables; v++) {
                element[v] = 0;
                ways *= elements;
            }
            for (int way = 0; way < ways; way++) {
                if (!holds(k)) {
                    return false;
                }
                nextElements(variables);
            }
            return true;
        }

        private void nextElements(int variables) {
            for (int v = 0; v < variables; v++) {
                element[v]++;
                if (element[v] < elements) {
                    return;
                }
                element[v] = 0;
            }
        }

        private boolean holds(int k) {
            int head = store.fact(k, Store.START);
            for (int i = 0; i < store.fact(k, Store.LITERALS); i++) {
                int left = store.sideAt(head, 0);
                int right = store.sideAt(head, 1);
                int stop = store.behind(head);
                boolean same = valueOf(left, right) == valueOf(right, stop);
                if (same == store.isPositive(head)) {
                    return true;
                }
                head = stop;
            }
            return false;
        }

        /** Goes from the right, so that the values of a SYMBOL's TERMS lie ready, the first on top. */
        private int valueOf(int from, int to) {
            int top = 0;
            for (int i = to - 1; i >= from; i--) {
                int c = store.cells.at[i];
                if (c < 0) {
                    values[top++] = element[~c];
                } else if (c == TRUE) {
                    values[top++] = 1;
                } else {
                    top -= symbols.arity[c];
                    values[top] = apply(c, top);
                    top++;
                }
            }
            return values[0];
        }

        /** The value of a SYMBOL whose TERMS have the values from there on, the first one last. */
        private int apply(int k, int from) {
            int h = mix(seed, k);
            for (int i = from + symbols.arity[k] - 1; i >= from; i--) {
                h = mix(h, values[i]);
            }
            h = (h ^ h >>> 15) * FACTOR;
            h = h ^ h >>> 12;
            return symbols.isPredicate(k) ? h & 1 : (h & LOW_BITS) % elements;
        }

        private static int mix(int h, int number) {
            return 31 * (h ^ h >>> 7) + number + 1;
        }
    }
}
