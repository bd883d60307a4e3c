/**
 * The boundaries that the document names for STEPS and INFERENCES, sentence by sentence: the last that is
 * allowed and the first that is not. What is due was worked out by hand; the comments say how.
 */
public final class StepBoundaries extends Checks {

    private StepBoundaries() {
    }

    public static void main(String[] args) {
        eightLiterals();
        weightOfSuperposition();
        weightOfResolution();
        weightOfFactoring();
        sixVariables();
        droppedBeforeReduced();
        twoThousandClauses();
        nothingMoreIsDone();
        atTwoThousand();
        fullByRewriting();
        rewrittenToNothing();
        sixtyTimes();
        sixtyTimesToNothing();
        valuesOfRewriting();
        eachFifthStep();
        fifthStepSinceTheRead();
        leastWeight();
        nonePassive();
        emptyClauseOfTheText();
        emptyClauseThatWaits();
        emptyClauseOfRewriting();
        notMoreLiterals();
        subsumedTheOtherWay();
        withItselfOnce();
        predicatesAndTrue();
        finish();
    }

    /** CLAUSES, PASSIVE, PROCESSED, STEPS, INFERENCES, DROPPED, SUBSUMED, REWRITTEN, TAUTOLOGIES, state. */
    private static String tally(CountedProver p) {
        int[] of = {0, 2, 3, 4, 5, 6, 7, 8, 9, 10};
        StringBuilder text = new StringBuilder();
        for (int what : of) {
            text.append(text.length() > 0 ? " " : "").append(p.count(what));
        }
        return text.toString();
    }

    private static CountedProver after(int steps, String text) {
        CountedProver p = CountedProver.of(text);
        due("no FAULT in " + text, p.fault(0), 0);
        p.run(steps);
        return p;
    }

    /** A TERM of WEIGHT k. */
    private static String term(int k) {
        return k == 1 ? "c" : "t" + k + "(" + times("c,", k - 2) + "c)";
    }

    private static void eightLiterals() {
        says("beyond the BOUNDS it is DROPPED: 8 LITERALS, before it is REDUCED");
        // 4 of the first, then 4 of the second with TRUE != TRUE; the first into itself has 4 and 5
        CountedProver p = after(2, "p(X) | a | b | c | d. ~p(e) | f | g | h.");
        due("the second is GIVEN first", tally(p), "3 1 2 2 2 1 0 0 0 0");
        due("8 LITERALS are made", p.shown(2), "a | b | c | d | f | g | h");
        due("7 are left of them", p.facts(2), "1 0 1 7 14 0 0 0");
        CountedProver q = after(2, "p(X) | a | b | c | d. ~p(e) | f | g | h | i.");
        due("9 LITERALS are DROPPED", tally(q), "2 0 2 2 2 2 0 0 0 0");
    }

    private static void weightOfSuperposition() {
        says("beyond the BOUNDS it is DROPPED: WEIGHT 100 of all sides, before it is REDUCED");
        // q and r weigh 48 each, TRUE != TRUE and b 2 each; the first into itself is a TAUTOLOGY
        String start = "p(X,X,X) | q(X,X) | r(X,X). ~p(" + term(23) + "," + term(23) + "," + term(23) + ") | ";
        CountedProver p = after(2, start + "b.");
        due("WEIGHT 100", tally(p), "3 1 2 2 2 0 0 0 1 0");
        due("98 of it are left", p.facts(2), "1 0 1 3 98 0 0 0");
        CountedProver q = after(2, start + "b(c).");
        due("WEIGHT 101", tally(q), "2 0 2 2 2 1 0 0 1 0");
    }

    private static void weightOfResolution() {
        says("beyond the BOUNDS it is DROPPED: RESOLUTION of WEIGHT 100");
        CountedProver p = after(1, "X != " + term(24) + " | q(X,X) | r(X,X).");
        due("WEIGHT 100", tally(p), "2 1 1 1 1 0 0 0 0 0");
        due("it is RESOLUTION", p.facts(1), "2 0 -1 2 100 0 0 0");
        CountedProver q = after(1, "X != " + term(24) + " | q(X,X) | r(X,X,c).");
        due("WEIGHT 101", tally(q), "1 0 1 1 1 1 0 0 0 0");
    }

    private static void weightOfFactoring() {
        says("beyond the BOUNDS it is DROPPED: FACTORING of WEIGHT 100");
        // q weighs 38, a and b 2 each, TRUE != TRUE 2, p 56; the 4 ways into itself have 9 LITERALS
        String start = "p(X,X,X) | p(" + term(18) + ",Y,Z) | q(X,X) | a | b";
        CountedProver p = after(1, start + ".");
        due("WEIGHT 100, twice", tally(p), "3 2 1 1 6 4 0 0 0 0");
        due("it is FACTORING", p.facts(1), "3 0 -1 4 98 0 0 0");
        due("and the other way round", p.facts(2), "3 0 -1 4 98 0 0 0");
        CountedProver q = after(1, start + "(c).");
        due("WEIGHT 101, twice", tally(q), "1 0 1 1 6 6 0 0 0 0");
    }

    private static void sixVariables() {
        says("beyond the BOUNDS it is DROPPED: 6 VARIABLES");
        // X, Y, Z of the first, A, B, C of the second; the first into itself is a TAUTOLOGY
        CountedProver p = after(2, "p(X,Y,Z,c) | q(X,Y,Z). ~p(U,V,W,c) | r(A,B,C).");
        due("6 VARIABLES", tally(p), "3 1 2 2 2 0 0 0 1 0");
        due("they are numbered as they come", p.shown(2), "q(X0,X1,X2) | r(X3,X4,X5)");
        due("6 VARIABLES", p.clause(2, 5), 6);
        // q is ELIGIBLE, too, as S is not in p, and into itself a TAUTOLOGY
        CountedProver q = after(2, "p(X,Y,Z,c,c) | q(X,Y,Z,S). ~p(U,V,W,c,c) | r(A,B,C).");
        due("7 VARIABLES", tally(q), "2 0 2 2 3 1 0 0 2 0");
    }

    private static void droppedBeforeReduced() {
        says("beyond the BOUNDS it is DROPPED; it is REDUCED; a TAUTOLOGY is none");
        // each into itself: 4 and 5 LITERALS with TRUE = TRUE, 3 and 4 of them
        CountedProver p = after(1, "a | b | c | d | e.");
        due("a TAUTOLOGY of 9 LITERALS is DROPPED", tally(p), "1 0 1 1 1 1 0 0 0 0");
        CountedProver q = after(1, "a | b | c | d.");
        due("a TAUTOLOGY of 7 LITERALS is none", tally(q), "1 0 1 1 1 0 0 0 1 0");
        // the same LITERALS 7 times: 4 and 4 are made, one is left of them
        CountedProver r = after(2, "p(X) | a | a | a | a. ~p(e) | a | a | a.");
        due("TEXT is REDUCED before, so that it is 1 and 2", r.shown(2), "a");
    }

    /** m times p(X) | r.. and n times ~p(c) | s.., which make m times n CLAUSES r.. | s.. and no other. */
    private static String product(int m, int n) {
        StringBuilder text = new StringBuilder();
        for (int i = 0; i < m; i++) {
            text.append("p(X)|r").append(i).append('.');
        }
        for (int j = 0; j < n; j++) {
            text.append("~p(c)|s").append(j).append('.');
        }
        return text.toString();
    }

    private static void twoThousandClauses() {
        says("A 2,001st CLAUSE is not made: the state is FULL");
        CountedProver most = CountedProver.of(product(68, 28));
        due("68 and 28 and 68 times 28", most.runToTheEnd(), 2);
        due("are 2,000 CLAUSES", most.count(0), 2000);
        due("each was GIVEN", most.count(4), 2000);
        due("each is PROCESSED", most.count(3), 2000);
        due("INFERENCES", most.count(5), 1904 + most.count(9));
        due("the last one is there", most.clause(1999, 0), 1);
        dueThrow("clause(2000, 0)", () -> most.clause(2000, 0), ELEMENT);
        dueThrow("show(2000)", () -> most.show(2000), ELEMENT);
        CountedProver more = CountedProver.of(product(76, 25));
        due("76 and 25 and 76 times 25", more.runToTheEnd(), 3);
        due("are one more", more.count(0), 2000);
        due("which counts as an INFERENCE", more.count(5), 1899 + more.count(9) + 1);
        due("state", more.count(10), 3);
        due("the GIVEN is PROCESSED", more.clause(100, 6), 1);
        dueThrow("clause(2000, 0)", () -> more.clause(2000, 0), ELEMENT);
        due("no PROOF", more.proof(), 0);
    }

    private static void nothingMoreIsDone() {
        says("the state is FULL, and nothing more is done");
        CountedProver p = CountedProver.of(product(90, 89));
        due("FULL", p.runToTheEnd(), 3);
        due("CLAUSES", p.count(0), 2000);
        due("the INFERENCES end there", p.count(5), 2000 - 179 + p.count(9) + 1);
        String before = p.counts();
        due("run(100)", p.run(100), 3);
        due("run(1)", p.run(1), 3);
        due("nothing", p.counts(), before);
        dueThrow("run(0)", () -> p.run(0), ARGUMENT);
        p.feedText("a. ~a.");
        due("read begins anew", p.read(), 2);
        due("OPEN", p.count(10), 0);
        due("run", p.run(100), 1);
    }

    private static void atTwoThousand() {
        says("A 2,001st CLAUSE is not made: what is DROPPED, or a TAUTOLOGY, is none");
        // the last of the TEXT is the heaviest: it is GIVEN when there are 2,000, and is 15 LITERALS into itself
        CountedProver p = CountedProver.of(product(49, 39) + "a0|a1|a2|a3|a4|a5|a6|a7.");
        due("SATURATED", p.runToTheEnd(), 2);
        due("CLAUSES", p.count(0), 2000);
        due("DROPPED", p.count(6), 1);
    }

    private static String power(String f, int n, String of) {
        return times(f + "(", n) + of + times(")", n);
    }

    /** 1,997 CLAUSES, then what REWRITES, then the heaviest: it is GIVEN when all others are there. */
    private static String almostFull(String more, String last) {
        return product(53, 36) + more + power("g", 6, "X") + "=X." + last;
    }

    private static void fullByRewriting() {
        says("REWRITING: it is a new CLAUSE and the GIVEN now (a 2,001st: FULL); what it was stays GONE");
        String last = "t(" + power("g", 6, "c") + ").";
        CountedProver p = CountedProver.of(almostFull("z.", last));
        due("FULL", p.runToTheEnd(), 3);
        due("CLAUSES", p.count(0), 2000);
        due("REWRITTEN once", p.count(8), 1);
        due("the GIVEN is GONE", p.clause(p.count(1) - 1, 6), 2);
        due("no INFERENCE more", p.count(5), 1908 + p.count(9));
        due("run(1)", p.run(1), 3);
        CountedProver q = CountedProver.of(almostFull("", last));
        due("one less: SATURATED", q.runToTheEnd(), 2);
        due("CLAUSES", q.count(0), 2000);
        due("the last is the REWRITTEN one", q.shown(1999), "t(c)");
        due("it is from the last of the TEXT", q.facts(1999), "4 90 -1 1 3 0 1 1");
        due("by", q.rewrote(1999, 0), 89);
    }

    private static void rewrittenToNothing() {
        says("REWRITING: (a TAUTOLOGY: none is made, the STEP is over; a 2,001st: FULL; empty: REFUTED)");
        CountedProver p = CountedProver.of(almostFull("z.", power("g", 6, "c") + "=c."));
        due("a TAUTOLOGY is no 2,001st", p.runToTheEnd(), 2);
        due("CLAUSES", p.count(0), 2000);
        due("what it was is GONE", p.clause(p.count(1) - 1, 6), 2);
        CountedProver q = CountedProver.of(almostFull("z.", power("g", 6, "c") + "!=c."));
        due("the empty one as the 2,001st is not made", q.runToTheEnd(), 3);
        due("no PROOF", q.proof(), 0);
        CountedProver r = CountedProver.of(almostFull("", power("g", 6, "c") + "!=c."));
        due("the empty one as the 2,000th", r.runToTheEnd(), 1);
        due("CLAUSES", r.count(0), 2000);
        due("PROOF", r.proof(), 3);
        due("its last", r.step(2), 1999);
    }

    private static void sixtyTimes() {
        says("REWRITING, at most 60 times");
        for (int times = 58; times <= 64; times++) {
            CountedProver p = after(2, "f(X) = X. p(" + power("f", 30, "c") + "," + power("f", times - 30, "c") + ").");
            due("times", p.count(8), Math.min(times, 60));
            due("what is left", p.shown(2), "p(c," + power("f", Math.max(times - 60, 0), "c") + ")");
            due("one REWROTE it", p.facts(2), "4 1 -1 1 " + (4 + Math.max(times - 60, 0)) + " 0 1 1");
            due("no more CLAUSES by REWRITING", p.clause(1, 6), 2);
        }
        CountedProver q = after(3, "g(X) = X. f(X) = X. p(" + power("f", 31, "c") + "," + power("g", 30, "c") + ").");
        due("by two", q.count(8), 60);
        due("the last is not done", q.shown(3), "p(c,g(c))");
        due("both REWROTE it", q.clause(3, 7), 2);
        due("in the order in which they first did", q.rewrote(3, 0), 1);
        due("in the order in which they first did", q.rewrote(3, 1), 0);
        CountedProver r = after(3, "g(X) = X. f(X) = X. p(" + power("f", 40, "c") + "," + power("f", 20, "g(c)") + ").");
        due("one that would have come as the 61st", r.shown(3), "p(c,g(c))");
        due("is none that REWROTE it", r.clause(3, 7), 1);
    }

    private static void sixtyTimesToNothing() {
        says("REWRITING, at most 60 times: then it is REDUCED, a TAUTOLOGY or empty, or not yet");
        CountedProver p = after(2, "f(X) = X. h(" + power("f", 40, "c") + ") != h(" + power("f", 20, "c") + ").");
        due("empty after 60: REFUTED", tally(p), "3 0 1 2 1 0 0 60 1 1");
        due("it", p.facts(2), "4 1 -1 0 0 0 2 1");
        // f(X) = X into the one that is left makes the empty one, the lightest of the next STEP
        CountedProver q = after(2, "f(X) = X. h(" + power("f", 40, "c") + ") != h(" + power("f", 21, "c") + ").");
        due("not empty after 60", q.shown(2), "h(c) != h(f(c))");
        due("OPEN", tally(q), "4 1 2 2 2 0 0 60 1 0");
        due("REFUTED by the next one", q.run(1), 1);
        due("PROOF", q.proof(), 4);
        CountedProver r = after(2, "f(X) = X. h(" + power("f", 40, "c") + ") = h(" + power("f", 20, "c") + ").");
        due("a TAUTOLOGY after 60: none is made", tally(r), "2 0 1 2 1 0 0 60 2 0");
        CountedProver s = after(2, "f(X) = X. h(" + power("f", 40, "c") + ") = h(" + power("f", 21, "c") + ").");
        due("no TAUTOLOGY after 60", s.shown(2), "h(c) = h(f(c))");
    }

    private static void valuesOfRewriting() {
        says("with values for its VARIABLES, those of r all in l, and GREATER than r with them");
        CountedProver p = after(2, "k(X) = X. f(X,X) = g(Y). ~p(f(c,c)).");
        due("Y is not in f(X,X)", p.count(8), 0);
        CountedProver q = after(4, "~q(a,b). f(X,Y) = f(Y,X). ~p(f(b,a)). ~p(f(a,b)).");
        due("f(b,a) is GREATER than f(a,b): PASSIVE again", q.clause(2, 6), 0);
        due("f(a,b) is not GREATER than f(b,a)", q.clause(3, 6), 1);
        due("none is REWRITTEN yet", q.count(8), 0);
        q.run(1);
        due("the fifth STEP takes it: once", q.count(8), 1);
        due("to the other", q.shown(q.count(0) - 1), "~p(f(a,b))");
        due("which SUBSUMES it", q.count(7), 1);
    }

    private static void processedInOrder(CountedProver p, int... order) {
        for (int i = 0; i < order.length; i++) {
            due("before STEP " + (i + 1), p.clause(order[i], 6), 0);
            p.run(1);
            due("by STEP " + (i + 1), p.clause(order[i], 6), 1);
        }
    }

    /** n CLAUSES of which each is lighter than the one before, and that have nothing to do with one another. */
    private static String lighter(int n) {
        StringBuilder text = new StringBuilder();
        for (int i = n - 1; i >= 0; i--) {
            text.append("~p(").append(power("f", i, "c")).append("). ");
        }
        return text.toString();
    }

    private static void eachFifthStep() {
        says("GIVEN: at each fifth STEP since the read the least number, else the one of least WEIGHT");
        processedInOrder(CountedProver.of(lighter(17)), 16, 15, 14, 13, 0, 12, 11, 10, 9, 1, 8, 7, 6, 5, 2, 4, 3);
        CountedProver p = CountedProver.of(lighter(17));
        p.run(4);
        due("four at once", p.clause(0, 6), 0);
        p.run(5);
        due("nine", p.clause(0, 6) * 10 + p.clause(1, 6), 10);
        p.run(1);
        due("ten", p.clause(0, 6) * 10 + p.clause(1, 6), 11);
        // the three that are SUBSUMED are STEPS, too
        processedInOrder(CountedProver.of("~p(f(f(c))). ~q(c)."), 1, 0);
        CountedProver q = CountedProver.of("~p(f(f(f(c)))). ~q(c). ~q(c). ~q(c). ~q(c). ~q(c). ~q(c).");
        q.run(4);
        due("STEPS", q.count(4) * 10 + q.count(7), 43);
        due("the heavy one is still PASSIVE", q.clause(0, 6), 0);
        q.run(1);
        due("and then PROCESSED", q.clause(0, 6), 1);
    }

    private static void fifthStepSinceTheRead() {
        says("at each fifth STEP since the read");
        for (int before = 0; before <= 6; before++) {
            CountedProver p = CountedProver.of(lighter(8));
            for (int i = 0; i < before; i++) {
                p.run(1);
            }
            p.feedText(lighter(8));
            p.read();
            processedInOrder(p, 7, 6, 5, 4, 0, 3, 2, 1);
        }
        CountedProver p = CountedProver.of("a.");
        p.run(100);
        p.feedText(lighter(6));
        p.read();
        processedInOrder(p, 5, 4, 3, 2, 0, 1);
    }

    private static void leastWeight() {
        says("the one of least WEIGHT, the least number of several");
        processedInOrder(CountedProver.of("~p(c). ~q(c). ~r(c). ~p(f(c))."), 0, 1, 2, 3);
        processedInOrder(CountedProver.of("~p(f(c)). ~q(c). ~r(f(c)). ~s(c)."), 1, 3, 0, 2);
    }

    private static void nonePassive() {
        says("none is PASSIVE: SATURATED. (That is no STEP.)");
        CountedProver p = CountedProver.of("~a. ~b.");
        due("two STEPS", p.run(2), 0);
        due("run(1)", p.run(1), 2);
        due("STEPS", p.count(4), 2);
        due("run(1)", p.run(1), 2);
        CountedProver q = CountedProver.of("~a. ~b.");
        due("three", q.run(3), 2);
        due("STEPS", q.count(4), 2);
        CountedProver r = CountedProver.of("");
        due("no CLAUSES: OPEN", r.count(10), 0);
        due("run(1)", r.run(1), 2);
        due("STEPS", r.count(4), 0);
        says("run: at most n STEPS, 1 .. 100");
        CountedProver s = CountedProver.of(times("~p(c). ", 150));
        due("run(100)", s.run(100), 0);
        due("STEPS", s.count(4), 100);
        due("run(49)", s.run(49), 0);
        due("run(1)", s.run(1), 0);
        due("STEPS", s.count(4), 150);
        due("run(1)", s.run(1), 2);
    }

    private static void emptyClauseOfTheText() {
        says("It is empty: REFUTED; of the TEXT, by STEPS");
        CountedProver p = CountedProver.of("~q(c). a != a.");
        due("CLAUSES", p.count(0), 2);
        due("nothing is in it", p.facts(1), "0 -1 -1 0 0 0 0 0");
        due("false", p.shown(1), "false");
        dueThrow("literal(1, 0, 0)", () -> p.literal(1, 0, 0), ELEMENT);
        due("never true", p.search(0, 1, 50), -1);
        due("OPEN before the STEP", p.count(10), 0);
        due("no PROOF before the STEP", p.proof(), 0);
        due("the lightest", p.run(1), 1);
        due("it is GONE", p.clause(1, 6), 2);
        due("STEPS", tally(p), "2 1 0 1 0 0 0 0 0 1");
        due("PROOF", p.proof() * 10 + p.step(0), 11);
        due("run(100)", p.run(100), 1);
        due("nothing more", tally(p), "2 1 0 1 0 0 0 0 0 1");
    }

    private static void emptyClauseThatWaits() {
        says("It is empty: REFUTED; one that is PASSIVE waits for its STEP");
        CountedProver p = CountedProver.of("~p(f(f(f(c)))). ~q(c). ~r(c). ~s(c). X != f(c).");
        due("four STEPS", p.run(4), 0);
        due("RESOLUTION", p.facts(5), "2 4 -1 0 0 0 0 0");
        due("no PROOF yet", p.proof(), 0);
        due("the fifth takes the least number", p.run(1), 0);
        due("the first CLAUSE", p.clause(0, 6), 1);
        due("the sixth", p.run(1), 1);
        due("PROOF", p.proof(), 2);
        due("4", p.step(0), 4);
        due("5", p.step(1), 5);
        dueThrow("no more", () -> p.step(2), INDEX);
    }

    private static void emptyClauseOfRewriting() {
        says("REWRITING: empty: REFUTED");
        CountedProver p = after(2, "q(X). ~q(c).");
        due("in the same STEP", tally(p), "3 0 1 2 1 0 0 1 1 1");
        due("the empty one is GONE", p.facts(2), "4 1 -1 0 0 0 2 1");
        due("what it was is GONE", p.clause(1, 6), 2);
        due("PROOF", p.proof(), 3);
        due("false", p.shown(2), "false");
    }

    private static void notMoreLiterals() {
        says("C SUBSUMES D: it has not more LITERALS");
        CountedProver p = after(2, "~p(X) | ~p(Y). ~p(a).");
        due("two for one: no", tally(p), "2 0 2 2 0 0 0 0 0 0");
        CountedProver q = after(2, "~p(X) | ~p(Y). ~p(a) | ~q(b).");
        due("two for the same one of two: yes", tally(q), "2 0 1 2 0 0 1 0 0 0");
        due("the GIVEN is GONE", q.clause(1, 6), 2);
        CountedProver r = after(2, "~q(b) | ~p(a). ~p(X) | ~p(Y).");
        due("the other way", tally(r), "2 0 1 2 0 0 1 0 0 0");
        due("the PROCESSED one is GONE", r.clause(0, 6), 2);
        CountedProver s = after(2, "~p(X) | ~p(X). ~p(f(a)) | ~q(b).");
        due("after it is REDUCED: one for two", tally(s), "2 0 1 2 0 0 1 0 0 0");
    }

    private static void subsumedTheOtherWay() {
        says("each is one of D's, sides may be changed");
        CountedProver p = after(2, "a != X | ~q(b). ~q(b) | c != a.");
        due("a != X for c != a", tally(p), "2 0 1 2 0 0 1 0 0 0");
        CountedProver q = after(2, "f(X) != g(X) | ~q(b). ~q(b) | g(c) != f(b).");
        due("not with two values for X", q.count(7), 0);
        CountedProver r = after(2, "f(X) != g(X) | ~q(b). ~q(b) | g(c) != f(c).");
        due("but with one", r.count(7), 1);
    }

    private static void withItselfOnce() {
        says("SUPERPOSITION of that into it, of it into that (with itself once)");
        CountedProver p = after(1, "f(f(X)) = g(X).");
        // f(f(X)) into the whole side is a TAUTOLOGY, into f(X) within it a CLAUSE
        due("two INFERENCES", tally(p), "2 1 1 1 2 0 0 0 1 0");
        due("the one", p.shown(1), "f(g(X0)) = g(f(X0))");
        due("of it into it", p.facts(1), "1 0 0 1 6 1 0 0");
    }

    private static void predicatesAndTrue() {
        says("No VARIABLE stands for a TERM of a PREDICATE or TRUE");
        CountedProver p = after(4, "X = c. p(c). ~q(c). ~r.");
        due("X = c does not REWRITE p(c)", p.count(8), 0);
        CountedProver q = after(2, "X = Y | ~r. q | ~r.");
        due("nor is X = Y the ATOM q, which is q = TRUE", tally(q), "2 0 2 2 0 0 0 0 0 0");
    }
}
