import java.lang.reflect.InvocationTargetException;
import java.lang.reflect.Method;

/**
 * A ClauseProver that counts its calls. What an object answers after its 512th call is free, so a test
 * that goes on unawares is stopped; one that must go on says so with goBeyond.
 */
final class CountedProver {
    static final int MOST_CALLS = 512;

    private final ClauseProver prover = new ClauseProver();
    private int calls = 0;
    private boolean beyond = false;

    /** A new object with this TEXT on its TAPE. */
    static CountedProver fed(String text) {
        CountedProver p = new CountedProver();
        p.feedText(text);
        return p;
    }

    /** A new object that has read this TEXT. */
    static CountedProver of(String text) {
        CountedProver p = fed(text);
        p.read();
        return p;
    }

    /** A boundary that 512 calls can't reach: the test stands for it with more of them. */
    CountedProver goBeyond() {
        beyond = true;
        return this;
    }

    /** How many calls are left to be made. */
    int left() {
        return MOST_CALLS - calls;
    }

    /** The object itself, for a test that looks inside of it. */
    ClauseProver bare() {
        return prover;
    }

    private ClauseProver next() {
        calls++;
        if (calls > MOST_CALLS && !beyond) {
            throw new AssertionError("a test calls one object more than 512 times");
        }
        return prover;
    }

    /** Any call of the face. */
    Object call(Method method, Object[] arguments) throws IllegalAccessException, InvocationTargetException {
        return method.invoke(next(), arguments);
    }

    int feed(int a, int b, int c, int d, int e) {
        return next().feed(a, b, c, d, e);
    }

    int end(int n) {
        return next().end(n);
    }

    int read() {
        return next().read();
    }

    int fault(int what) {
        return next().fault(what);
    }

    int run(int n) {
        return next().run(n);
    }

    int clause(int k, int what) {
        return next().clause(k, what);
    }

    int rewrote(int k, int i) {
        return next().rewrote(k, i);
    }

    int literal(int k, int i, int what) {
        return next().literal(k, i, what);
    }

    int show(int k) {
        return next().show(k);
    }

    int out(int i) {
        return next().out(i);
    }

    int symbol(int k, int what) {
        return next().symbol(k, what);
    }

    int proof() {
        return next().proof();
    }

    int step(int i) {
        return next().step(i);
    }

    int look(int seed, int m) {
        return next().look(seed, m);
    }

    int search(int seed, int m, int n) {
        return next().search(seed, m, n);
    }

    int count(int what) {
        return next().count(what);
    }

    /** Puts a text behind what is on the TAPE. */
    void feedText(String text) {
        int[] n = new int[5];
        int before = count(12);
        for (int i = 0; i < text.length(); i += 20) {
            for (int j = 0; j < 5; j++) {
                n[j] = 0;
                for (int k = i + 4 * j; k < i + 4 * j + 4; k++) {
                    n[j] = n[j] << 8 | (k < text.length() ? text.charAt(k) : 0);
                }
            }
            feed(n[0], n[1], n[2], n[3], n[4]);
        }
        end(before + text.length());
    }

    /** Runs until the state is another one than OPEN: the state. */
    int runToTheEnd() {
        int state = 0;
        for (int i = 0; i < 60 && state == 0; i++) {
            state = run(100);
        }
        return state;
    }

    String shown(int k) {
        show(k);
        return written();
    }

    /** OUT as it is. */
    String written() {
        int length = count(13);
        StringBuilder text = new StringBuilder();
        for (int i = 0; i < length; i++) {
            text.append((char) out(i));
        }
        return text.toString();
    }

    String allShown() {
        int clauses = count(0);
        StringBuilder text = new StringBuilder();
        for (int k = 0; k < clauses; k++) {
            text.append(shown(k)).append(". ");
        }
        return text.toString().trim();
    }

    /** All that clause tells of CLAUSE k. */
    String facts(int k) {
        StringBuilder text = new StringBuilder();
        for (int what = 0; what < 8; what++) {
            text.append(what > 0 ? " " : "").append(clause(k, what));
        }
        return text.toString();
    }

    /** All that literal tells of CLAUSE k. */
    String literals(int k) {
        int literals = clause(k, 3);
        StringBuilder text = new StringBuilder();
        for (int i = 0; i < literals; i++) {
            for (int what = 0; what < 4; what++) {
                text.append(literal(k, i, what));
            }
            text.append(' ');
        }
        return text.toString().trim();
    }

    String symbols() {
        int symbols = count(11);
        StringBuilder text = new StringBuilder();
        for (int k = 0; k < symbols; k++) {
            text.append(symbol(k, 0)).append(symbol(k, 1)).append(symbol(k, 2)).append(' ');
        }
        return text.toString().trim();
    }

    String counts() {
        StringBuilder text = new StringBuilder();
        for (int what = 0; what < 14; what++) {
            text.append(what > 0 ? " " : "").append(count(what));
        }
        return text.toString();
    }

    /** All that can be seen without a call that changes something. */
    String sight() {
        StringBuilder text = new StringBuilder();
        text.append(counts()).append("; ").append(fault(0)).append(' ').append(fault(1));
        text.append("; ").append(written()).append("; ").append(symbols()).append("; ");
        int clauses = count(0);
        for (int k = 0; k < clauses; k++) {
            text.append(facts(k)).append('/').append(literals(k)).append('/');
            for (int i = 0; i < clause(k, 7); i++) {
                text.append(rewrote(k, i)).append(' ');
            }
        }
        int steps = proof();
        for (int i = 0; i < steps; i++) {
            text.append(i == 0 ? "; " : " ").append(step(i));
        }
        return text.toString();
    }
}
