/**
 * The sentences of 'Terms' that name no boundary: how a TEXT is parted, which CLAUSES it has, and what a STEP
 * does in which order. What is due was worked out by hand; the comments say how. SYMBOLS have numbers as
 * their NAMES come, so what is to be the lesser NAME comes first in these TEXTS.
 */
public final class TermTests extends Checks {

    private TermTests() {
    }

    public static void main(String[] args) {
        fromLeftToRight();
        asLongAsItGoes();
        innermostVariable();
        partsOfEquivalence();
        clausesAreTheFormula();
        numberedAsTheyComeFirst();
        whatIsInBothGoes();
        sidesOfTheFirst();
        literalsOfTheFirst();
        termsFromTheLeft();
        literalsOfTheSecond();
        usableSides();
        resolution();
        factoring();
        factoringOfAllSides();
        factoringIfNoneIsSelected();
        noValuesForPredicates();
        differentVariables();
        mostGeneralValues();
        rewritingFromTheLeft();
        rewritingByTheLeast();
        rewritingByTheLeftSide();
        rewritingGoesOn();
        rewritingBeforeSubsumption();
        subsumedBeforeRewritten();
        passiveAgain();
        notPassiveAgain();
        byNumbers();
        thatIntoItFirst();
        resolutionThenFactoring();
        proofOfAll();
        finish();
    }

    private static CountedProver after(int steps, String text) {
        CountedProver p = CountedProver.of(text);
        due("no FAULT in " + text, p.fault(0), 0);
        p.run(steps);
        return p;
    }

    private static void clauses(String text, String clauses) {
        due("the CLAUSES of " + text, CountedProver.of(text).allShown(), clauses);
    }

    /** The CLAUSES from this number on, each behind where it is from, of which and into which. */
    private static void made(CountedProver p, int from, String... due) {
        due("how many CLAUSES", p.count(0), from + due.length);
        for (int i = 0; i < due.length && from + i < p.count(0); i++) {
            int k = from + i;
            due("CLAUSE " + k, p.clause(k, 0) + " " + p.clause(k, 1) + " " + p.clause(k, 2) + ": " + p.shown(k), due[i]);
        }
    }

    /** INFERENCES, DROPPED, SUBSUMED, REWRITTEN, TAUTOLOGIES. */
    private static void tally(CountedProver p, String due) {
        due("what was counted", p.count(5) + " " + p.count(6) + " " + p.count(7) + " " + p.count(8) + " " + p.count(9), due);
    }

    /** A FORMULA whose height is n and 1. */
    private static String high(int n) {
        return "(! " + times("X ", n) + ": a)";
    }

    private static void fromLeftToRight() {
        says("both from left to right: a & b & c is (a & b) & c");
        // only the height tells: what is high stands first, so two signs are above it, or last, and one is
        fault(high(197) + " & b & c.", 0, 0);
        fault(high(198) + " & b & c.", 3, 0);
        fault("b & c & " + high(198) + ".", 0, 0);
        fault("b & c & " + high(199) + ".", 3, 0);
        fault(high(197) + " | b | c.", 0, 0);
        fault(high(198) + " | b | c.", 3, 0);
        fault("b | c | " + high(198) + ".", 0, 0);
        fault("b | c | " + high(199) + ".", 3, 0);
        says("IMPLICATION: CHOICE, perhaps => IMPLICATION");
        fault("b => c => " + high(197) + ".", 0, 0);
        fault("b => c => " + high(198) + ".", 3, 0);
        fault(high(198) + " => b => c.", 0, 0);
        fault(high(199) + " => b => c.", 3, 0);
        clauses("a => b => c.", "~a | ~b | c.");
        clauses("(a => b) => c.", "a | c. ~b | c.");
        clauses("a | b & c => d | e & f.", "~a | d | e. ~a | d | f. ~b | ~c | d | e. ~b | ~c | d | f.");
    }

    private static void asLongAsItGoes() {
        says("! or ? with VARIABLES, then : and a FORMULA (as long as it goes)");
        clauses("a | ! X : p(X) & b | c.", "a | p(X0) | c. a | b | c.");
        clauses("a | (! X : p(X)) & b | c.", "a | p(X0) | c. a | b | c.");
        clauses("a & ~ ? X : p(X) | b.", "a. ~p(X0). ~b.");
        clauses("a & ~ (? X : p(X)) | b.", "a | b. ~p(X0) | b.");
        clauses("! X : p(X) => q(X).", "~p(X0) | q(X0).");
        clauses("(! X : p(X)) => q(X).", "~p(w0(X0)) | q(X0).");
        clauses("! X : p(X) <=> a.", "~p(X0) | a. ~a | p(X0).");
        clauses("(! X : p(X)) <=> a.", "~p(w0) | a. ~a | p(X0).");
        says("UNIT: ~ UNIT");
        clauses("~a & b.", "~a. b.");
        clauses("~a | b.", "~a | b.");
        clauses("~a => b.", "a | b.");
        clauses("~a = b & c.", "a != b. c.");
        clauses("~ ~ ~ a != b.", "a = b.");
    }

    private static void innermostVariable() {
        says("A VARIABLE is that of the innermost ! or ? around it with this WORD");
        clauses("! X : p(X) & ? X : q(X).", "p(X0). q(w0(X0)).");
        clauses("! X : (? X : q(X)) & p(X).", "q(w0(X0)). p(X0).");
        clauses("! X Y X : p(X,Y).", "p(X0,X1).");
        clauses("? X Y X : p(X,Y).", "p(w2(w0,w1(w0)),w1(w0)).");
        says("one without is bound by ! around the whole FORMULA (in the order in which they come first)");
        clauses("(? Z : r(Z)) & p(Y) & q(X,Y).", "r(w0(X0,X1)). p(X0). q(X0,X1).");
        clauses("prove p(Y) | q(X,Y).", "~p(w0). ~q(w1(w0),w0).");
        clauses("p(X). q(X).", "p(X0). q(X0).");
    }

    private static void partsOfEquivalence() {
        says("F <=> G is (~F | G) & (~G | F), ~(F <=> G) is (F | G) & (~F | ~G)");
        clauses("a & b <=> c & d.", "~a | ~b | c. ~a | ~b | d. ~c | ~d | a. ~c | ~d | b.");
        clauses("~(a & b <=> c & d).", "a | c. a | d. b | c. b | d. ~a | ~b | ~c | ~d.");
        clauses("~(a | b <=> c).", "a | b | c. ~a | ~c. ~b | ~c.");
        says("F | G: for each of F, for each of G: its LITERALS, then that one's");
        clauses("(a & b) | (c | d) & e.", "a | c | d. a | e. b | c | d. b | e.");
        says("WITNESSES are SYMBOLS in the order of their VARIABLES in the TEXT (<=> has its parts both ways)");
        clauses("(? X : p(X)) <=> ! Y : q(Y).", "~p(X0) | q(X1). ~q(w1) | p(w0).");
        clauses("(? X : ! Y : p(X,Y)) <=> a.", "~p(X0,w1(X0)) | a. ~a | p(w0,X0).");
        due("SYMBOLS", CountedProver.of("(? X : ! Y : p(X,Y)) <=> a.").symbols(), "010 210 010 001 101");
    }

    /** A FORMULA of the ATOMS a, b and c: of height n by the digits of a number. */
    private static String formula(int number, int n) {
        String[] atoms = {"a", "b", "c"};
        String[] signs = {" & ", " | ", " => ", " <=> "};
        int rest = number / 6;
        if (n == 0) {
            return atoms[number % 3];
        }
        if (number % 6 >= 4) {
            return "~" + formula(rest, n - 1);
        }
        return "(" + formula(rest, n - 1) + signs[number % 6] + formula(rest / 5 + number, n - 1) + ")";
    }

    /** Is the FORMULA true where a, b and c are as these bits; the same digits as above. */
    private static boolean isTrue(int number, int n, int bits) {
        int rest = number / 6;
        if (n == 0) {
            return (bits >> number % 3 & 1) == 1;
        }
        boolean one = isTrue(rest, n - 1, bits);
        boolean two = number % 6 < 4 && isTrue(rest / 5 + number, n - 1, bits);
        switch (number % 6) {
            case 0: return one && two;
            case 1: return one || two;
            case 2: return !one || two;
            case 3: return one == two;
            default: return !one;
        }
    }

    /** Is one LITERAL of each CLAUSE true; a CLAUSE is shown as a | ~b. */
    private static boolean areTrue(String clauses, int bits) {
        boolean all = true;
        for (String clause : clauses.isEmpty() ? new String[0] : clauses.split("\\.")) {
            boolean one = false;
            for (String literal : clause.trim().split(" \\| ")) {
                boolean negative = literal.startsWith("~");
                int name = literal.charAt(negative ? 1 : 0) - 'a';
                one |= (bits >> name & 1) == (negative ? 0 : 1);
            }
            all &= one;
        }
        return all;
    }

    private static void clausesAreTheFormula() {
        says("CLAUSES of F (true) and of ~F");
        int seen = 0;
        for (int number = 0; number < 4000; number++) {
            int n = 1 + number % 3;
            String text = (number % 2 == 0 ? "" : "prove ") + formula(number / 6, n) + ".";
            CountedProver p = CountedProver.of(text);
            if (p.fault(0) == 0 && p.count(0) < 30) {
                String clauses = p.allShown();
                seen++;
                for (int bits = 0; bits < 8; bits++) {
                    boolean is = isTrue(number / 6, n, bits) == (number % 2 == 0);
                    holds(text + " as " + clauses + " for " + bits, areTrue(clauses, bits) == is);
                }
            }
        }
        holds("many were seen", seen > 2000);
    }

    private static void numberedAsTheyComeFirst() {
        says("REDUCED: LITERALS s != s go, and those that came before; then VARIABLES are numbered as they come first");
        clauses("X != X | p(Y,X).", "p(X0,X1).");
        clauses("p(Z) | f(Y) != f(Y) | p(Z) | q(X,Y,Z).", "p(X0) | q(X1,X2,X0).");
        clauses("X = Y | Y = X | Y = Z | p(X).", "X0 = X1 | X1 = X2 | p(X0).");
        clauses("X != Y | Y != X | p(Y) | p(X).", "X0 != X1 | p(X1) | p(X0).");
        clauses("a = b | a != c | b = a | c != a.", "a = b | a != c.");
        due("VARIABLES", CountedProver.of("X != X | Y != Y | p(Z).").clause(0, 5), 1);
    }

    private static void whatIsInBothGoes() {
        says("what is in both, as often, goes; for each that is left of the second one there is a GREATER one left");
        due("one for each of two", CountedProver.of("f(X) = g(Y) | Y = X.").literals(0), "1014 1002");
        due("none for Z", CountedProver.of("f(X) = g(Y) | Y = Z.").literals(0), "1014 1012");
        due("one for both", CountedProver.of("f(X,Y) = a | X = Y.").literals(0), "1114 1002");
        due("g(X) goes: h(X) and f(X)", CountedProver.of("f(X) = g(X) | g(X) = h(X).").literals(0), "1204 1214");
        due("h(X) goes: f(X) and g(X)", CountedProver.of("f(X) = g(X). f(X) = h(X) | g(X) = h(X).").literals(1), "1204 1214");
        due("Z goes: f(X) and g(Y)", CountedProver.of("f(X) = Z | g(Y) = Z.").literals(0), "1013 1013");
    }

    private static void sidesOfTheFirst() {
        says("SUPERPOSITION: for each ELIGIBLE = of A, each USABLE side l of it (the left first; r is the other)");
        // no side is GREATER, as each has VARIABLES that the other has not: the first is GIVEN first
        CountedProver p = after(2, "f(a,U) != g(V,d). f(X,Y) = g(Z,W).");
        made(p, 2,
            "1 1 0: g(X0,X1) != g(X2,d)",
            "1 1 0: f(a,X0) != f(X1,X2)",
            "1 1 1: g(X0,X1) = g(X2,X3)",
            "1 1 1: f(X0,X1) = f(X2,X3)");
        tally(p, "4 0 0 0 0");
    }

    private static void literalsOfTheFirst() {
        says("SUPERPOSITION: for each ELIGIBLE = of A: the other LITERALS of A, then those of B, with r for u");
        // both into themselves are TAUTOLOGIES, with c = c
        CountedProver p = after(2, "~p(g(a),f(a)). f(X) = c | g(Y) = c.");
        made(p, 2,
            "1 1 0: g(X0) = c | ~p(g(a),c)",
            "1 1 0: f(X0) = c | ~p(c,f(a))");
        tally(p, "4 0 0 0 2");
        // r for u stands where u stood, and the sides stay where they were
        CountedProver q = after(2, "q | f(X) = c. r | s | a = g(f(b)) | t.");
        made(q, 2, "1 0 1: q | r | s | a = g(c) | t");
    }

    private static void termsFromTheLeft() {
        says("each TERM u in s that is no VARIABLE (itself first, then those in its TERMS from the left)");
        CountedProver p = after(2, "~p(f(f(a)),f(b)). f(X) = c | q.");
        made(p, 2,
            "1 1 0: q | ~p(c,f(b))",
            "1 1 0: q | ~p(f(c),f(b))",
            "1 1 0: q | ~p(f(f(a)),c)");
        CountedProver q = after(2, "~p(Y,f(b)). f(X) = c | q.");
        made(q, 2, "1 1 0: q | ~p(X0,c)");
    }

    private static void literalsOfTheSecond() {
        says("each ELIGIBLE LITERAL of B, each USABLE side s");
        CountedProver p = after(2, "r(f(a),X) | s(f(b),Y). f(X) = c | q.");
        made(p, 2,
            "1 1 0: q | r(c,X0) | s(f(b),X1)",
            "1 1 0: q | r(f(a),X0) | s(c,X1)");
        // r, s and f into themselves
        tally(p, "5 0 0 0 3");
        CountedProver q = after(2, "~s(f(a)) | ~r(f(b),c). f(X) = c | q.");
        made(q, 2, "1 1 0: q | ~s(f(a)) | ~r(c,c)");
        CountedProver both = after(2, "k(f(a),X) != k(f(b),Y). f(X) = c | q.");
        made(both, 2,
            "1 1 0: q | k(c,X0) != k(f(b),X1)",
            "1 1 0: q | k(f(a),X0) != k(c,X1)");
    }

    private static void usableSides() {
        says("A side is USABLE if the other is not GREATER");
        CountedProver p = after(2, "~p(c). f(X) = c | q.");
        made(p, 2);
        tally(p, "1 0 0 0 1");
        // d is GREATER than e, f(c) than d, and f(d) than c
        CountedProver q = after(2, "q | e = d. f(c) != d.");
        made(q, 2);
        CountedProver r = after(2, "q | e = d. f(d) != c.");
        made(r, 2, "1 0 1: q | f(e) != c");
        CountedProver s = after(2, "q | d = e. f(d) != c.");
        made(s, 2);
    }

    private static void resolution() {
        says("RESOLUTION: for each ELIGIBLE s != t: s and t become the same: the others");
        CountedProver p = after(1, "X != a | f(Y) != f(b) | p(X,Y).");
        made(p, 1, "2 0 -1: X0 != a | p(X0,b)");
        CountedProver q = after(1, "f(X,g(Y)) != f(Y,Z) | p(X,Y,Z).");
        made(q, 1, "2 0 -1: p(X0,X0,g(X0))");
        CountedProver r = after(1, "f(X,X) != f(Y,g(Y)) | p(X).");
        made(r, 1);
        CountedProver s = after(1, "a != b | p(X).");
        made(s, 1);
        tally(s, "0 0 0 0 0");
    }

    private static void factoring() {
        says("FACTORING: for each ELIGIBLE =, each other =, each USABLE side s, each side v: the others, t != w, s = w");
        // into itself seven times, with one TAUTOLOGY, then factors: of both = with the other one
        CountedProver p = after(1, "f(X) = a | f(b) = Y.");
        due("7 and 5", p.count(0), 1 + 6 + 5);
        due("INFERENCES", p.count(5), 12);
        String[] factors = {"a != X0 | f(b) = X0", "a != f(b) | f(X0) = f(b)", "X0 != a | f(b) = a", "f(b) != a | f(X0) = a",
            "f(b) != f(X0) | a = f(X0)"};
        for (int i = 0; i < factors.length; i++) {
            due("factor " + i, p.shown(7 + i), factors[i]);
            due("from", p.clause(7 + i, 0) + " " + p.clause(7 + i, 1) + " " + p.clause(7 + i, 2), "3 0 -1");
        }
        due("what came before", p.clause(6, 0), 1);
        CountedProver q = after(1, "p(X) | q | p(a).");
        made(q, 1, "3 0 -1: q | p(a)", "3 0 -1: q | p(a)");
        // c is GREATER than b: the first one is not ELIGIBLE, but the other of the second one
        CountedProver r = after(1, "f(X) = b | f(X) = c.");
        made(r, 1, "3 0 -1: c != b | f(X0) = b");
        tally(r, "2 0 0 0 1");
    }

    private static void factoringOfAllSides() {
        says("FACTORING: each USABLE side s of the first (t the other), each side v of the second (w the other)");
        // a and b can't become the same, all others can
        CountedProver p = after(1, "X = a | Y = b.");
        String[] factors = {"a != b | X0 = b", "a != X0 | b = X0", "X0 != b | a = b", "b != a | X0 = a", "b != X0 | a = X0",
            "X0 != a | b = a"};
        for (int i = 0; i < factors.length; i++) {
            int k = p.count(0) - factors.length + i;
            due("factor " + i, p.clause(k, 0) + ": " + p.shown(k), "3: " + factors[i]);
        }
        due("there is no other", p.clause(p.count(0) - factors.length - 1, 0), 1);
    }

    private static void factoringIfNoneIsSelected() {
        says("FACTORING, if none is SELECTED");
        CountedProver p = after(1, "p(X) | p(a) | ~q.");
        made(p, 1);
        tally(p, "0 0 0 0 0");
        says("FACTORING: for each ELIGIBLE =");
        CountedProver q = after(1, "p(X) | p(a) | r(f(f(X))).");
        made(q, 1);
        tally(q, "1 0 0 0 1");
    }

    private static void noValuesForPredicates() {
        says("No VARIABLE stands for a TERM of a PREDICATE or TRUE");
        // X stands for c and for b, but not for p(b), nor for q or TRUE in a factor
        CountedProver p = after(2, "q | X = c. ~p(b).");
        made(p, 2,
            "1 0 0: q | X0 = c",
            "1 0 0: q | X0 = X1",
            "1 0 1: q | ~p(c)");
        tally(p, "3 0 0 0 0");
    }

    private static void differentVariables() {
        says("VARIABLES of two CLAUSES, and of two of the same one, are different");
        CountedProver p = after(2, "q(X) | f(X,a) = X. ~p(f(b,X),X).");
        made(p, 2, "1 0 1: q(b) | ~p(b,a)");
        // into itself, and into f(X,Y) within itself: TAUTOLOGIES
        CountedProver q = after(1, "f(f(X,Y),Y) = X.");
        made(q, 1);
        tally(q, "2 0 0 0 2");
    }

    private static void mostGeneralValues() {
        says("the most general values that make two TERMS the same, if there are any");
        CountedProver p = after(1, "f(X,Y,g(Z)) != f(Y,h(U),V) | p(X,Y,Z,U,V).");
        made(p, 1, "2 0 -1: p(h(X0),h(X0),X1,X0,g(X1))");
        CountedProver q = after(1, "f(X,g(X)) != f(Y,Y) | p(X).");
        made(q, 1);
        CountedProver r = after(1, "f(X,Y,Z) != f(g(Y),g(Z),g(X)) | p(X).");
        made(r, 1);
        CountedProver s = after(1, "f(X,Y,X) != f(Y,X,a) | p(X,Y,Z).");
        made(s, 1, "2 0 -1: p(a,a,X0)");
    }

    private static void rewritingFromTheLeft() {
        says("REWRITING: the first place (LITERALS in order, left, right, a TERM before those in it, from the left)");
        String rules = "g(X) = a. f(X) = a. ";
        String[] texts = {"~p(f(g(b)),g(c))", "~p(f(b),g(c))", "f(b) != g(c)", "~p(f(b)) | ~q(g(c))", "k(a,f(b)) != k(g(b),a)"};
        for (String text : texts) {
            CountedProver p = after(3, rules + text + ".");
            due("two times in " + text, p.count(8), 2);
            due("by two", p.clause(3, 7), 2);
            due("first by f", p.rewrote(3, 0), 1);
            due("then by g", p.rewrote(3, 1), 0);
        }
        CountedProver p = after(3, rules + "~p(g(f(b)),f(c)).");
        due("first by g", p.rewrote(3, 0) * 10 + p.rewrote(3, 1), 1);
        due("two times", p.count(8), 2);
    }

    private static void rewritingByTheLeast() {
        says("REWRITING: of several such CLAUSES the least number");
        // the second one is lighter, and PROCESSED before the first one
        CountedProver p = after(3, "p(f(X),k(b)). p(f(a),Y). ~p(f(a),k(b)) | ~q.");
        made(p, 3, "4 2 -1: ~q");
        due("by one", p.clause(3, 7), 1);
        due("the first one", p.rewrote(3, 0), 0);
        // the place comes first, so that f(b) is REWRITTEN by 1 before c is by 0
        CountedProver q = after(3, "a = c. f(X) = a. ~p(f(b),c).");
        due("the first place by the greater number", q.rewrote(3, 0) * 10 + q.rewrote(3, 1), 10);
    }

    private static void rewritingByTheLeftSide() {
        says("REWRITING: of its sides the left");
        // by the left side it is f(a,b,c); by the right one it were f(b,c,a), and only then f(a,b,c)
        CountedProver p = after(5, "~q(a,b,c). f(X,Y,Z) = f(Y,Z,X). ~p(f(c,a,b),a,a,a).");
        due("the last STEP took it", p.clause(2, 6), 2);
        due("it is now", p.shown(firstRewritten(p)), "~p(f(a,b,c),a,a,a)");
        due("once", p.count(8), 1);
        CountedProver q = after(5, "~q(a,b,c). f(Y,Z,X) = f(X,Y,Z). ~p(f(c,a,b),a,a,a).");
        due("it is now", q.shown(firstRewritten(q)), "~p(f(a,b,c),a,a,a)");
        due("twice", q.count(8), 2);
    }

    /** The first CLAUSE that REWRITING made; there must be one. */
    private static int firstRewritten(CountedProver p) {
        int k = 0;
        while (p.clause(k, 0) != 4) {
            k++;
        }
        return k;
    }

    private static void rewritingGoesOn() {
        says("REWRITING: r there; if there were any: REDUCED, it is a new CLAUSE and the GIVEN now; what it was stays GONE");
        CountedProver p = after(3, "g(X) = X. f(X) = g(X). ~p(f(f(c))) | ~p(g(c)) | ~p(c) | X != Y.");
        // f(X) = g(X) is f(X) = X before that, so f is REWRITTEN by it
        due("each is c now", p.shown(p.count(0) - 1), "~p(c) | X0 != X1");
        due("from", p.clause(p.count(0) - 1, 0), 4);
        due("REDUCED", p.clause(p.count(0) - 1, 3), 2);
        due("what it was is GONE", p.clause(2, 6), 2);
        due("PROCESSED", p.clause(p.count(0) - 1, 6), 1);
        CountedProver q = after(2, "f(X) = c | q. ~p(f(c),c,c).");
        due("only = that is alone in its CLAUSE", q.count(8), 0);
        CountedProver r = after(2, "f(X) != c. ~p(f(c)).");
        due("only =", r.count(8), 0);
        CountedProver t = after(2, "p(X). ~p(c) | q | r.");
        made(t, 2, "4 1 -1: q | r");
    }

    private static void rewritingBeforeSubsumption() {
        says("REWRITING, then: a PROCESSED CLAUSE SUBSUMES it: the STEP is over");
        CountedProver p = after(3, "~p(c). f(X) = X. ~p(f(c)) | ~q(c).");
        made(p, 3, "4 2 -1: ~p(c) | ~q(c)");
        due("both are GONE", p.clause(2, 6) * 10 + p.clause(3, 6), 22);
        tally(p, "1 0 1 1 1");
    }

    private static void subsumedBeforeRewritten() {
        says("each PROCESSED one that it SUBSUMES is GONE; then each one where it could REWRITE is PASSIVE again");
        CountedProver p = after(2, "f(a) = a. f(X) = X.");
        due("GONE, though it could be REWRITTEN", p.clause(0, 6), 2);
        due("SUBSUMED", p.count(7), 1);
        due("none is PASSIVE", p.count(2), 0);
        CountedProver q = after(4, "~p(a). ~p(b). ~q(a). ~p(X).");
        due("two are GONE, one is not", "" + q.clause(0, 6) + q.clause(1, 6) + q.clause(2, 6) + q.clause(3, 6), "2211");
        due("SUBSUMED", q.count(7), 2);
    }

    private static void passiveAgain() {
        says("if it is a single =, each one where it could REWRITE is PASSIVE again");
        // g(X) is GREATER than f(X), and all but the first weigh the same
        CountedProver p = after(3, "f(c) != c. ~p(g(a)). ~q(g(c)). f(X) = g(X).");
        due("none is REWRITTEN by one that is PASSIVE", p.count(8), 0);
        due("they are PROCESSED", "" + p.clause(0, 6) + p.clause(1, 6) + p.clause(2, 6) + p.clause(3, 6), "1110");
        p.run(1);
        due("those with g are PASSIVE again", "" + p.clause(0, 6) + p.clause(1, 6) + p.clause(2, 6) + p.clause(3, 6), "1001");
        made(p, 4);
        p.run(1);
        made(p, 4, "4 1 -1: ~p(f(a))");
        p.run(1);
        made(p, 4, "4 1 -1: ~p(f(a))", "4 2 -1: ~q(f(c))");
        due("what they were is GONE", p.clause(1, 6) * 10 + p.clause(2, 6), 22);
    }

    private static void notPassiveAgain() {
        says("if it is a single =");
        CountedProver p = after(2, "~p(f(a)). f(X) = X | ~q(X).");
        due("two LITERALS", p.clause(0, 6) * 10 + p.clause(1, 6), 11);
        CountedProver q = after(2, "~p(a). f(X) != a.");
        due("!=", q.clause(0, 6) * 10 + q.clause(1, 6), 11);
    }

    private static void byNumbers() {
        says("Then with each PROCESSED one, by numbers");
        CountedProver p = after(3, "r. ~p(a) | ~s. ~p(b) | ~t. p(X) | u.");
        p.run(1);
        made(p, 4,
            "1 3 1: u | ~s",
            "1 3 2: u | ~t");
        // the one with the greater number is lighter, and PROCESSED before
        CountedProver q = after(3, "r. ~p(f(a)) | ~s. ~p(b) | ~t. p(X) | u(c).");
        q.run(1);
        made(q, 4,
            "1 3 1: u(c) | ~s",
            "1 3 2: u(c) | ~t");
    }

    private static void thatIntoItFirst() {
        says("SUPERPOSITION of that into it, of it into that (with itself once)");
        CountedProver p = after(2, "q | f(g(X)) = a. q | g(f(X)) = b.");
        made(p, 2,
            "1 0 1: q | g(a) = b",
            "1 1 0: q | f(b) = a");
        tally(p, "4 0 0 0 2");
    }

    private static void resolutionThenFactoring() {
        says("SUPERPOSITION; RESOLUTION; FACTORING");
        CountedProver p = after(2, "f(X) = c | q. f(X) != f(Y) | p(X,Y).");
        made(p, 2,
            "1 0 1: q | c != f(X0) | p(X1,X0)",
            "1 0 1: q | f(X0) != c | p(X0,X1)",
            "2 1 -1: p(X0,X0)");
    }

    private static void proofOfAll() {
        says("PROOF: the empty CLAUSE of REFUTED and all that it, and they, are from or were REWRITTEN by");
        // 0 and 1 REWRITE 3 to p(c), which REWRITES ~p(c); r is of no use
        CountedProver p = CountedProver.of("g(X) = X. f(X) = g(X). r. p(f(c)). ~p(c) | s. ~s.");
        due("the first of the PROOF", closedProof(p, 5), "0 1 3 4 5 ");
        holds("r is none of it", !isStep(p, 2));
        // each of the four is needed, and only SUPERPOSITION leads from them to what is lighter
        CountedProver q = CountedProver.of("c. a | b. ~a | b. a | ~b. ~a | ~b.");
        due("the first of the PROOF", closedProof(q, 4), "1 2 3 4 ");
        holds("c is none of it", !isStep(q, 0));
    }

    /** Runs until it is REFUTED, and looks whether all is there that something is from: the first n numbers. */
    private static String closedProof(CountedProver p, int n) {
        due("REFUTED", p.run(100), 1);
        StringBuilder numbers = new StringBuilder();
        for (int i = 0; i < p.proof(); i++) {
            int k = p.step(i);
            numbers.append(i < n ? k + " " : "");
            holds("what it is from", p.clause(k, 1) < 0 || isStep(p, p.clause(k, 1)));
            holds("what it is into", p.clause(k, 2) < 0 || isStep(p, p.clause(k, 2)));
            for (int j = 0; j < p.clause(k, 7); j++) {
                holds("what REWROTE it", isStep(p, p.rewrote(k, j)));
            }
        }
        due("the empty one is the last", p.clause(p.step(p.proof() - 1), 3), 0);
        return numbers.toString();
    }

    private static boolean isStep(CountedProver p, int k) {
        boolean is = false;
        for (int i = 0; i < p.proof(); i++) {
            is |= p.step(i) == k;
        }
        return is;
    }
}
