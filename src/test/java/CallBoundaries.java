import java.util.ArrayList;
import java.util.List;
import java.util.function.Supplier;
import java.util.function.ToIntFunction;

/**
 * The boundaries of the calls, promise by promise: what an empty object answers, the last argument that is
 * allowed, the first that is refused and with which exception, and that a refused call changes nothing.
 */
public final class CallBoundaries extends Checks {
    private static final int LEAST = Integer.MIN_VALUE;
    private static final int MOST = Integer.MAX_VALUE;
    private static final int[] WHATS_BEYOND = {-1, LEAST, MOST};
    /** f(X) = X REWRITES p(f(c)); then q is proved of r | q and ~r by SUPERPOSITION. */
    private static final String TEXT = "f(X) = X. p(f(c)). r | q. ~r | ~p(c). prove q.";

    private CallBoundaries() {
    }

    /** A call that is refused in the state in which it is made, and how. */
    private static final class Refusal {
        final String name;
        final ToIntFunction<CountedProver> call;
        final String exception;

        Refusal(String name, ToIntFunction<CountedProver> call, String exception) {
            this.name = name;
            this.call = call;
            this.exception = exception;
        }
    }

    public static void main(String[] args) {
        newObject();
        refusedInAllStates();
        refusedWhenFull();
        end();
        read();
        readOfAFault();
        fault();
        run();
        clause();
        rewrote();
        literal();
        show();
        longestOut();
        out();
        symbol();
        proofAndStep();
        numbersOfAPredicate();
        numbersOfAFunction();
        numbersOfManyValues();
        allElements();
        look();
        lookAtManyClauses();
        searchFarAway();
        searchWraps();
        count();
        finish();
    }

    private static CountedProver started() {
        CountedProver p = CountedProver.of(TEXT);
        p.show(3);
        p.feedText("a. b.");
        return p;
    }

    private static CountedProver run(int steps) {
        CountedProver p = started();
        p.run(steps);
        return p;
    }

    private static CountedProver shown(String text, int k) {
        CountedProver p = CountedProver.of(text);
        p.show(k);
        return p;
    }

    private static CountedProver faulty() {
        CountedProver p = shown("a | b. ~a.", 0);
        p.run(1);
        p.feedText("a b.");
        p.read();
        return p;
    }

    private static CountedProver saturated() {
        CountedProver p = shown("a | b. ~a.", 0);
        p.run(100);
        return p;
    }

    private static void newObject() {
        says("A new object: an empty TAPE and OUT, no CLAUSES, OPEN");
        CountedProver p = new CountedProver();
        due("all that can be seen", p.sight(), "0 0 0 0 0 0 0 0 0 0 0 1 0 0; 0 0; ; 010; ");
        due("look", p.look(0, 1), 0);
        due("look", p.look(LEAST, 3), 0);
        due("search", p.search(0, 1, 1), 0);
        due("search", p.search(MOST, 3, 50), 0);
        due("proof", p.proof(), 0);
        due("end(0)", p.end(0), 0);
        due("read", p.read(), 0);
        due("all that can be seen", p.sight(), "0 0 0 0 0 0 0 0 0 0 0 1 0 0; 0 0; ; 010; ");
        due("run(1)", p.run(1), 2);
        due("SATURATED without a STEP", p.sight(), "0 0 0 0 0 0 0 0 0 0 2 1 0 0; 0 0; ; 010; ");
        due("run(100) of another one", new CountedProver().run(100), 2);
    }

    private static void refusedInAllStates() {
        says("A call that throws changes nothing but what is said there");
        refusedIn("a new object", CountedProver::new);
        refusedIn("one that is fed", () -> CountedProver.fed("a. ~b | c. prove b."));
        refusedIn("one that has read", CallBoundaries::started);
        for (int steps = 1; steps <= 6; steps++) {
            int so = steps;
            refusedIn("one after STEP " + steps, () -> run(so));
        }
        refusedIn("one that is REFUTED", () -> run(100));
        refusedIn("one that is SATURATED", CallBoundaries::saturated);
        refusedIn("one that met a FAULT", CallBoundaries::faulty);
        refusedIn("one with the empty CLAUSE", () -> shown("b. a != a. c.", 1));
        refusedIn("one without CLAUSES", () -> CountedProver.of("a | ~a. b = b."));
        due("the states are what they are told to be", "" + started().count(10) + run(3).count(10)
            + run(100).count(10) + saturated().count(10) + faulty().fault(0), "00121");
    }

    private static void refusedIn(String state, Supplier<CountedProver> make) {
        for (Refusal refusal : refusals(make.get())) {
            CountedProver p = make.get();
            CountedProver untouched = make.get();
            String name = refusal.name + " of " + state;
            dueThrow(name, () -> refusal.call.applyAsInt(p), refusal.exception);
            due("what is seen behind " + name, p.sight(), untouched.sight());
            due("what comes behind " + name, goOn(p), goOn(untouched));
        }
    }

    private static String goOn(CountedProver p) {
        StringBuilder text = new StringBuilder();
        text.append(p.look(7, 2)).append(' ').append(p.search(3, 3, 50)).append(' ').append(p.run(2));
        text.append(' ').append(p.counts()).append(' ').append(p.read()).append(' ').append(p.fault(0));
        text.append(' ').append(p.count(1) > 0 ? p.shown(p.count(1) - 1) : "");
        return text.append(' ').append(p.run(3)).append(' ').append(p.counts()).toString();
    }

    /** All calls that are refused in the state of this object. */
    private static List<Refusal> refusals(CountedProver p) {
        List<Refusal> all = new ArrayList<>();
        int clauses = p.count(0);
        int tape = p.count(12);
        for (int n : new int[] {-1, tape + 1, LEAST, MOST}) {
            all.add(new Refusal("end(" + n + ")", x -> x.end(n), ARGUMENT));
        }
        for (int n : new int[] {0, -1, 101, LEAST, MOST}) {
            all.add(new Refusal("run(" + n + ")", x -> x.run(n), ARGUMENT));
        }
        for (int k : new int[] {-1, clauses, LEAST, MOST}) {
            refuseNoClause(all, k);
        }
        if (clauses > 0) {
            refuseOfClause(all, p, 0);
            refuseOfClause(all, p, clauses - 1);
        }
        refuseNumbers(all, p.count(13), p.proof());
        refuseSymbols(all, p.count(11));
        refuseInterpretations(all);
        return all;
    }

    /** There is no CLAUSE k, which is named first whatever else is wrong. */
    private static void refuseNoClause(List<Refusal> all, int k) {
        for (int what : new int[] {0, 7, 8, -1, LEAST, MOST}) {
            all.add(new Refusal("clause(" + k + ", " + what + ")", x -> x.clause(k, what), ELEMENT));
            all.add(new Refusal("rewrote(" + k + ", " + what + ")", x -> x.rewrote(k, what), ELEMENT));
            all.add(new Refusal("literal(" + k + ", 0, " + what + ")", x -> x.literal(k, 0, what), ELEMENT));
            all.add(new Refusal("literal(" + k + ", -1, " + what + ")", x -> x.literal(k, -1, what), ELEMENT));
        }
        all.add(new Refusal("show(" + k + ")", x -> x.show(k), ELEMENT));
    }

    private static void refuseOfClause(List<Refusal> all, CountedProver p, int k) {
        int literals = p.clause(k, 3);
        for (int what : new int[] {-1, 8, LEAST, MOST}) {
            all.add(new Refusal("clause(" + k + ", " + what + ")", x -> x.clause(k, what), ARGUMENT));
        }
        for (int i : new int[] {-1, p.clause(k, 7), LEAST, MOST}) {
            all.add(new Refusal("rewrote(" + k + ", " + i + ")", x -> x.rewrote(k, i), ELEMENT));
        }
        for (int i : new int[] {-1, literals, LEAST, MOST}) {
            for (int what : new int[] {0, 3, 4, -1}) {
                String name = "literal(" + k + ", " + i + ", " + what + ")";
                all.add(new Refusal(name, x -> x.literal(k, i, what), ELEMENT));
            }
        }
        for (int what : new int[] {-1, 4, LEAST, MOST}) {
            if (literals > 0) {
                String name = "literal(" + k + ", " + (literals - 1) + ", " + what + ")";
                all.add(new Refusal(name, x -> x.literal(k, literals - 1, what), ARGUMENT));
            }
        }
    }

    private static void refuseNumbers(List<Refusal> all, int out, int proof) {
        for (int i : new int[] {-1, out, LEAST, MOST}) {
            all.add(new Refusal("out(" + i + ")", x -> x.out(i), INDEX));
        }
        for (int i : new int[] {-1, proof, LEAST, MOST}) {
            all.add(new Refusal("step(" + i + ")", x -> x.step(i), INDEX));
        }
    }

    private static void refuseSymbols(List<Refusal> all, int symbols) {
        for (int k : new int[] {-1, symbols, LEAST, MOST}) {
            for (int what : new int[] {0, 2, 3, -1}) {
                all.add(new Refusal("symbol(" + k + ", " + what + ")", x -> x.symbol(k, what), ELEMENT));
            }
        }
        for (int what : new int[] {-1, 3, LEAST, MOST}) {
            all.add(new Refusal("symbol(0, " + what + ")", x -> x.symbol(0, what), ARGUMENT));
            String name = "symbol(" + (symbols - 1) + ", " + what + ")";
            all.add(new Refusal(name, x -> x.symbol(symbols - 1, what), ARGUMENT));
        }
    }

    private static void refuseInterpretations(List<Refusal> all) {
        for (int m : new int[] {0, 4, -1, LEAST, MOST}) {
            all.add(new Refusal("look(5, " + m + ")", x -> x.look(5, m), ARGUMENT));
            for (int n : new int[] {1, 50, 0, 51}) {
                all.add(new Refusal("search(5, " + m + ", " + n + ")", x -> x.search(5, m, n), ARGUMENT));
            }
        }
        for (int n : new int[] {0, 51, -1, LEAST, MOST}) {
            all.add(new Refusal("search(5, 1, " + n + ")", x -> x.search(5, 1, n), ARGUMENT));
            all.add(new Refusal("search(5, 3, " + n + ")", x -> x.search(5, 3, n), ARGUMENT));
        }
    }

    /** All 2,000 CLAUSES can't be seen within 512 calls: the counts, OUT and a few CLAUSES stand for them. */
    private static void refusedWhenFull() {
        says("A call that throws changes nothing, of an object that is FULL, too");
        CountedProver p = CountedProver.of("h(h(h(s,X),Y),Z) = h(h(X,Z),h(Y,Z)). h(h(k,X),Y) = X."
            + " prove ? X : ! Y : h(X,Y) = h(Y,h(X,Y)).");
        due("FULL", p.runToTheEnd(), 3);
        p.show(1);
        String before = seenWhenFull(p);
        for (Refusal refusal : refusals(p)) {
            dueThrow(refusal.name + " when FULL", () -> refusal.call.applyAsInt(p), refusal.exception);
        }
        due("run(100)", p.run(100), 3);
        due("nothing changed", seenWhenFull(p), before);
    }

    private static String seenWhenFull(CountedProver p) {
        return p.counts() + p.written() + p.facts(0) + p.facts(1000) + p.facts(1999);
    }

    private static void end() {
        says("end: only the first n bytes of the TAPE stay: n; n is not 0 .. its length");
        for (int n = 0; n <= 20; n++) {
            CountedProver p = CountedProver.fed("a.b.c.d.e.f.g.h.i.j.");
            int so = n;
            due("end(" + n + ")", p.end(n), n);
            due("length", p.count(12), n);
            dueThrow("end(" + (n + 1) + ")", () -> p.end(so + 1), ARGUMENT);
            due("end(" + n + ") again", p.end(n), n);
            due("read", p.read(), n % 2 == 0 ? n / 2 : -1);
            due("the FAULT is at the TEXT's end", p.fault(1), n % 2 == 0 ? 0 : n);
        }
        CountedProver p = new CountedProver();
        due("of an empty TAPE", p.end(0), 0);
        dueThrow("end(1)", () -> p.end(1), ARGUMENT);
        dueThrow("end(-1)", () -> p.end(-1), ARGUMENT);
    }

    private static void read() {
        says("read: all that was before is gone (OUT stays); the TAPE is the TEXT (and empty then): OPEN");
        List<Supplier<CountedProver>> before = List.of(CountedProver::new, CallBoundaries::started, () -> run(3),
            () -> run(5), () -> run(100), CallBoundaries::saturated, CallBoundaries::faulty);
        for (Supplier<CountedProver> make : before) {
            CountedProver p = make.get();
            p.end(0);
            String out = p.written();
            p.feedText("q(a) | ? X : q(X). f(a,b) != b.");
            due("read", p.read(), 2);
            due("counts", p.counts(), "2 2 2 0 0 0 0 0 0 0 0 6 0 " + out.length());
            due("OUT stays", p.written(), out);
            due("the FAULT is gone", p.fault(0) * 1000 + p.fault(1), 0);
            due("SYMBOLS", p.symbols(), "010 110 000 200 000 001");
            due("the first CLAUSE", p.facts(0), "0 -1 -1 2 6 0 0 0");
            dueThrow("no other CLAUSE", () -> p.clause(2, 0), ELEMENT);
            dueThrow("no PROOF", () -> p.step(0), INDEX);
            CountedProver q = CountedProver.of("q(a) | ? X : q(X). f(a,b) != b.");
            due("as a new object goes on", p.run(100) + p.allShown() + p.counts(), q.run(100) + q.allShown() + q.counts());
        }
        CountedProver busy = CountedProver.of("f(X) = X. p(f(c)). ~q(X) | ~r. ~q(c) | ~r. a0|a1|a2|a3|a4|a5|a6|a7.");
        busy.run(100);
        for (int what = 0; what < 12; what++) {
            holds("count(" + what + ") is more than 0", busy.count(what) > 0 || what == 2);
        }
        busy.feedText("b0.");
        busy.read();
        due("all of it begins anew", busy.counts(), "1 1 1 0 0 0 0 0 0 0 0 2 0 0");
        says("read: of an empty TAPE");
        CountedProver p = run(100);
        p.end(0);
        due("read", p.read(), 0);
        due("counts", p.counts(), "0 0 0 0 0 0 0 0 0 0 0 1 0 10");
        CountedProver twice = CountedProver.fed("a.");
        due("read", twice.read(), 1);
        due("read again", twice.read(), 0);
        due("no CLAUSES", twice.count(0), 0);
    }

    private static void readOfAFault() {
        says("read: -1: a FAULT, there are no CLAUSES and no SYMBOLS but TRUE (it is OPEN all the same)");
        String[] faults = {"a. b @", "a. b. a = b.", "a. " + times("~", 61), "a. " + times("b. ", 200), "? X : p(X). q(",
            "a. b. " + times("c|", 8) + "c."};
        for (String text : faults) {
            for (int steps : new int[] {1, 3, 100}) {
                CountedProver p = run(steps);
                p.end(0);
                p.feedText(text);
                due("read of " + text, p.read(), -1);
                due("all that is seen", p.counts(), "0 0 0 0 0 0 0 0 0 0 0 1 0 10");
                due("OUT stays", p.written(), "~r | ~p(c)");
                due("SYMBOLS", p.symbols(), "010");
                dueThrow("clause(0, 0)", () -> p.clause(0, 0), ELEMENT);
                due("proof", p.proof(), 0);
                due("look", p.look(4, 2), 0);
                due("search", p.search(4, 2, 9), 0);
                due("run", p.run(1), 2);
                due("the FAULT stays", p.fault(0) > 0 ? 1 : 0, 1);
            }
        }
    }

    private static void fault() {
        says("fault: what 0 the FAULT (0: none, or no read yet), 1 its place (0). Else -1");
        CountedProver p = new CountedProver();
        due("no read yet", p.fault(0) * 10 + p.fault(1), 0);
        p.feedText("a b.");
        due("not yet", p.fault(0) * 10 + p.fault(1), 0);
        p.read();
        due("FAULT 1 at 2", p.fault(0) * 10 + p.fault(1), 12);
        p.feedText("a. c. a = b.");
        due("of the last read", p.fault(0) * 10 + p.fault(1), 12);
        p.read();
        due("FAULT 2 at 6", p.fault(0) * 10 + p.fault(1), 26);
        p.feedText("a. b. c. " + times("d|", 8) + "d.");
        p.read();
        due("FAULT 3 at 9", p.fault(0) * 10 + p.fault(1), 39);
        p.read();
        due("none", p.fault(0) * 10 + p.fault(1), 0);
        for (int what : new int[] {-1, 2, 3, LEAST, MOST}) {
            due("fault(" + what + ")", p.fault(what), -1);
            due("fault(" + what + ") of a new object", new CountedProver().fault(what), -1);
            due("fault(" + what + ") behind a FAULT", faulty().fault(what), -1);
        }
    }

    private static void run() {
        says("run: at most n STEPS, 1 .. 100, while it is OPEN (if it is not: none): the state");
        String many = times("~p(c). ", 120);
        int[] allowed = {1, 2, 99, 100};
        for (int n : allowed) {
            CountedProver p = CountedProver.of(many);
            due("run(" + n + ")", p.run(n), 0);
            due("STEPS", p.count(4), n);
        }
        CountedProver refuted = run(100);
        CountedProver saturated = saturated();
        due("REFUTED", refuted.count(10), 1);
        due("SATURATED", saturated.count(10), 2);
        for (int n : allowed) {
            String before = refuted.counts();
            due("run(" + n + ") of one that is REFUTED", refuted.run(n), 1);
            due("none", refuted.counts(), before);
            before = saturated.counts();
            due("run(" + n + ") of one that is SATURATED", saturated.run(n), 2);
            due("none", saturated.counts(), before);
        }
    }

    private static void clause() {
        says("clause: of CLAUSE k: what 0 .. 7");
        CountedProver p = run(100);
        int last = p.count(0) - 1;
        due("clause(0, 0)", p.clause(0, 0), 0);
        due("clause(0, 7)", p.clause(0, 7), 0);
        due("the last one is the empty one", p.clause(last, 3), 0);
        due("which is GONE", p.clause(last, 6), 2);
        dueThrow("the one behind it", () -> p.clause(last + 1, 0), ELEMENT);
        CountedProver text = CountedProver.of(times("a.", 200));
        due("clause(199, 0)", text.clause(199, 0), 0);
        dueThrow("clause(200, 0)", () -> text.clause(200, 0), ELEMENT);
        dueThrow("both are wrong", () -> text.clause(200, 8), ELEMENT);
        dueThrow("one is wrong", () -> text.clause(199, 8), ARGUMENT);
    }

    private static void rewrote() {
        says("rewrote: the i-th CLAUSE, from 0, each once, in the order in which they first did");
        CountedProver p = CountedProver.of("k(X) = X. g(X) = X. f(X) = X. ~p(f(g(f(g(k(k(f(c)))))))).");
        p.run(4);
        due("from", p.facts(4), "4 3 -1 1 3 0 1 3");
        due("first", p.rewrote(4, 0), 2);
        due("second", p.rewrote(4, 1), 1);
        due("third", p.rewrote(4, 2), 0);
        dueThrow("no fourth", () -> p.rewrote(4, 3), ELEMENT);
        dueThrow("rewrote(4, -1)", () -> p.rewrote(4, -1), ELEMENT);
        dueThrow("of what it was", () -> p.rewrote(3, 0), ELEMENT);
        dueThrow("rewrote(5, 0)", () -> p.rewrote(5, 0), ELEMENT);
    }

    private static void literal() {
        says("literal: of LITERAL i of CLAUSE k; there is none");
        CountedProver p = CountedProver.of("a|b|c|d|e|f|g|h. k != k. i = j.");
        due("the last of 8", p.literal(0, 7, 3), 2);
        due("the last of 8 is the GREATEST", p.literal(0, 7, 2) * 10 + p.literal(0, 6, 2), 10);
        dueThrow("a ninth", () -> p.literal(0, 8, 3), ELEMENT);
        dueThrow("of the empty CLAUSE", () -> p.literal(1, 0, 0), ELEMENT);
        dueThrow("of the empty CLAUSE, and another what", () -> p.literal(1, 0, 4), ELEMENT);
        due("of one alone", p.literals(2), "1212");
        dueThrow("a second", () -> p.literal(2, 1, 0), ELEMENT);
        says("literal: what 1, whatever the state of the CLAUSE");
        CountedProver q = CountedProver.of("f(X) = g(X) | p(X,X). ~p(c,c) | a = b. f(X) = X.");
        String before = q.literals(0) + "; " + q.literals(1) + "; " + q.literals(2);
        due("PASSIVE", before, "1204 1114; 0114 1202; 1113");
        q.run(100);
        due("and later", q.literals(0) + "; " + q.literals(1) + "; " + q.literals(2), before);
        due("GONE, PROCESSED", q.clause(0, 6) + q.clause(2, 6), 3);
    }

    private static void show() {
        says("show: VARIABLES X0 .. X5, WITNESSES w and their number from 0; OUT is the CLAUSE: its length");
        CountedProver p = CountedProver.of("? X : p(X,c). p(A,B) | p(C,D) | p(E,F). a != a.");
        due("w0", p.shown(0), "p(w0,c)");
        due("X5", p.shown(1), "p(X0,X1) | p(X2,X3) | p(X4,X5)");
        due("its length", p.show(1), 30);
        due("false", p.show(2), 5);
        dueThrow("show(3)", () -> p.show(3), ELEMENT);
        due("OUT stays by a throw", p.written(), "false");
        dueThrow("show(-1)", () -> p.show(-1), ELEMENT);
        due("OUT stays by a throw", p.written(), "false");
        says("show: (without ( ) if they have no TERMS; TRUE is not written)");
        due("both ways", CountedProver.of("~p | q(X) | X = c | c != f(c).").allShown(), "~p | q(X0) | X0 = c | c != f(c).");
        due("w9, w10 and w11", CountedProver.of(times("? X : a. ", 9) + "? X : ! Y : ? Z : p(X,Z). ? X : p(X,c).").shown(9)
            + CountedProver.of(times("? X : a. ", 11) + "? X : p(X,c).").shown(11), "p(w9,w10(w9,X0))p(w11,c)");
        due("w99 and w100", CountedProver.of(times("? X : a. ", 99) + "? X Y : p(X,Y).").shown(99), "p(w99,w100(w99))");
    }

    /** A CLAUSE of WEIGHT 100 and NAMES of 31 signs has OUT's greatest length, too long for out of each byte. */
    private static void longestOut() {
        says("show: its length");
        String name = times("n", 31);
        String predicate = times("p", 31);
        CountedProver p = CountedProver.of(predicate + "(" + times(name + ",", 97) + name + ").");
        int length = 31 + 2 + 98 * 31 + 97;
        due("length", p.show(0), length);
        due("in count", p.count(13), length);
        due("the last byte", p.out(length - 1), ')');
        due("the one before", p.out(length - 2), 'n');
        due("the first", p.out(0), 'p');
        dueThrow("out(length)", () -> p.out(length), INDEX);
        p.feedText("a.");
        p.read();
        due("OUT stays", p.out(length - 1), ')');
        due("a short one", p.show(0), 1);
        dueThrow("out(1)", () -> p.out(1), INDEX);
        due("out(0)", p.out(0), 'a');
    }

    private static void out() {
        says("out: byte i of OUT; there is none");
        CountedProver p = new CountedProver();
        dueThrow("out(0) of a new object", () -> p.out(0), INDEX);
        p.feedText("ab = X.");
        p.read();
        dueThrow("out(0) before show", () -> p.out(0), INDEX);
        due("show", p.show(0), 7);
        due("all bytes", p.written(), "ab = X0");
        dueThrow("out(7)", () -> p.out(7), INDEX);
        dueThrow("out(-1)", () -> p.out(-1), INDEX);
    }

    private static void symbol() {
        says("symbol: what 0 how many TERMS; 1: 1 a PREDICATE (or TRUE); 2: 1 a WITNESS");
        CountedProver p = CountedProver.of("p(" + times("a,", 97) + "X) & ? Y : q.");
        due("TRUE, p, a, q, w0", p.symbols(), "010 9810 000 010 101");
        dueThrow("symbol(5, 0)", () -> p.symbol(5, 0), ELEMENT);
        due("the SYMBOLS of a new object", new CountedProver().symbols(), "010");
        CountedProver q = CountedProver.of("! " + times("X ", 198) + ": ? Y : a.");
        due("a WITNESS of 198 TERMS", q.symbol(2, 0), 198);
        CountedProver r = CountedProver.of("(! " + times("X ", 190) + ": ? Y : a) | p(U,V,W).");
        due("those without ! and ? are around it, too", r.symbol(3, 0), 193);
    }

    private static void proofAndStep() {
        says("proof: 0 if it is not REFUTED; step: the least first; there is none");
        CountedProver[] others = {new CountedProver(), started(), run(3), saturated(), faulty()};
        for (CountedProver p : others) {
            due("proof()", p.proof(), 0);
            dueThrow("step(0)", () -> p.step(0), INDEX);
        }
        CountedProver p = run(100);
        int length = p.proof();
        holds("at least the empty CLAUSE", length > 0);
        due("the last one is the empty CLAUSE", p.clause(p.step(length - 1), 3), 0);
        for (int i = 1; i < length; i++) {
            holds("the least first", p.step(i - 1) < p.step(i));
        }
        dueThrow("step(length)", () -> p.step(length), INDEX);
        dueThrow("step(-1)", () -> p.step(-1), INDEX);
        p.end(0);
        p.feedText("b.");
        p.read();
        due("proof() after a read", p.proof(), 0);
        dueThrow("step(0) after a read", () -> p.step(0), INDEX);
    }

    /** The number h as the document tells it, in numbers that are too large to wrap. */
    private static long numberOf(int seed, int... symbolAndValues) {
        long whole = 1L << 32;
        long h = seed & whole - 1;
        for (int it : symbolAndValues) {
            h = (31 * (h ^ h / 128) + it + 1) % whole;
        }
        h = (h ^ h / 32768) * 739982445L % whole;
        return h ^ h / 4096;
    }

    private static boolean isOdd(int seed, int... symbolAndValues) {
        return numberOf(seed, symbolAndValues) % 2 == 1;
    }

    private static int valueOf(int seed, int m, int... symbolAndValues) {
        return (int) (numberOf(seed, symbolAndValues) % (1L << 31) % m);
    }

    /** Seeds with each of the 32 bits alone, with all below it, and with all above it. */
    private static List<Integer> seeds() {
        List<Integer> all = new ArrayList<>();
        for (int bit = 0; bit < 32; bit++) {
            all.add(1 << bit);
            all.add((1 << bit) - 1);
            all.add(-(1 << bit));
            all.add(0x9e3779b9 * bit);
        }
        return all;
    }

    private static void numbersOfAPredicate() {
        says("The number h of a SYMBOL (32 bits): a PREDICATE true if it is odd");
        CountedProver p = CountedProver.of("p.");
        CountedProver q = CountedProver.of("~p(c).");
        for (int seed : seeds()) {
            int m = 1 + (seed & 1) + (seed >>> 1 & 1);
            due("p, look(" + seed + ", " + m + ")", p.look(seed, m), isOdd(seed, 1) ? 0 : -1);
            int c = valueOf(seed, m, 2);
            due("~p(c), look(" + seed + ", " + m + ")", q.look(seed, m), isOdd(seed, 1, c) ? -1 : 0);
        }
    }

    private static void numbersOfAFunction() {
        says("The number h of a SYMBOL (32 bits): a FUNCTION is the rest of its low 31 bits by m");
        CountedProver p = CountedProver.of("a = b.");
        CountedProver q = CountedProver.of("f(a,b) != c.");
        for (int seed : seeds()) {
            for (int m = 2; m <= 3; m++) {
                boolean same = valueOf(seed, m, 1) == valueOf(seed, m, 2);
                due("a = b, look(" + seed + ", " + m + ")", p.look(seed, m), same ? 0 : -1);
                int f = valueOf(seed, m, 1, valueOf(seed, m, 2), valueOf(seed, m, 3));
                due("f(a,b) != c, look(" + seed + ", " + m + ")", q.look(seed, m), f != valueOf(seed, m, 4) ? 0 : -1);
            }
            due("m 1: all are the same", p.look(seed, 1), 0);
        }
    }

    private static void numbersOfManyValues() {
        says("The number h of a SYMBOL with values: for its number, then each value");
        CountedProver p = CountedProver.of("p(" + times("a,", 97) + "a).");
        CountedProver w = CountedProver.of("? " + times("X ", 150) + ": a. ? " + times("X ", 149) + ": a. ? X : p(X).");
        for (int seed : seeds()) {
            int m = 1 + (seed & 1) + (seed >>> 1 & 1);
            int[] values = new int[99];
            for (int i = 0; i < values.length; i++) {
                values[i] = i == 0 ? 1 : valueOf(seed, m, 2);
            }
            due("98 values, look(" + seed + ", " + m + ")", p.look(seed, m), isOdd(seed, values) ? 0 : -1);
            boolean is = isOdd(seed, 1) && isOdd(seed, 2, valueOf(seed, m, 302));
            due("p(w299), look(" + seed + ", " + m + ")", w.look(seed, m), is ? 0 : -1);
        }
    }

    private static void allElements() {
        says("A CLAUSE is true if for all ELEMENTS as VARIABLES one of its LITERALS is (the empty one never)");
        CountedProver p = CountedProver.of("p(A,B,C,D,E,F) | q(A) | q(B) | q(C) | q(D) | q(E) | q(F).");
        int trueOnes = 0;
        for (int seed = 0; seed < 150; seed++) {
            for (int m = 1; m <= 3; m++) {
                boolean is = true;
                for (int way = 0; way < Math.pow(m, 6); way++) {
                    int[] v = new int[7];
                    boolean one = false;
                    v[0] = 1;
                    for (int i = 1, rest = way; i < 7; i++, rest /= m) {
                        v[i] = rest % m;
                        one |= isOdd(seed, 2, v[i]);
                    }
                    is &= one || isOdd(seed, v);
                }
                trueOnes += is && m > 1 ? 1 : 0;
                due("6 VARIABLES, look(" + seed + ", " + m + ")", p.look(seed, m), is ? 0 : -1);
            }
        }
        holds("some are true, some not", trueOnes > 0 && trueOnes < 300);
        pairsAndTriples();
        CountedProver empty = CountedProver.of("a != a.");
        for (int seed = 0; seed < 100; seed++) {
            due("the empty one", empty.look(seed, 1 + seed % 3), -1);
        }
    }

    /** Each pair of ELEMENTS, and each triple, is the only one that is not true for some seed. */
    private static void pairsAndTriples() {
        for (int seed = 0; seed < 100; seed++) {
            CountedProver pair = CountedProver.of("p(X,Y) | q(Y,X).");
            CountedProver triple = CountedProver.of("p(X,Y,Z) | q(Z,Y,X) | r(Y,X).");
            for (int m = 1; m <= 3; m++) {
                boolean pairs = true;
                boolean triples = true;
                for (int way = 0; way < m * m * m; way++) {
                    int x = way % m;
                    int y = way / m % m;
                    int z = way / m / m;
                    pairs &= isOdd(seed, 1, x, y) || isOdd(seed, 2, y, x);
                    triples &= isOdd(seed, 1, x, y, z) || isOdd(seed, 2, z, y, x) || isOdd(seed, 3, y, x);
                }
                due("pairs, look(" + seed + ", " + m + ")", pair.look(seed, m), pairs ? 0 : -1);
                due("triples, look(" + seed + ", " + m + ")", triple.look(seed, m), triples ? 0 : -1);
            }
        }
    }

    private static void look() {
        says("look: -1 if a CLAUSE of the TEXT is not true, else how many of all are not; m is not 1 .. 3");
        CountedProver p = CountedProver.of("a. ~b.");
        int seen = 0;
        for (int seed = LEAST; seed < LEAST + 50; seed++) {
            boolean is = isOdd(seed, 1) && !isOdd(seed, 2);
            seen += is ? 1 : 0;
            due("look(" + seed + ", 1)", p.look(seed, 1), is ? 0 : -1);
            due("look(" + seed + ", 3)", p.look(seed, 3), is ? 0 : -1);
        }
        holds("some are true, some not", seen > 0 && seen < 50);
        dueThrow("look(0, 0)", () -> p.look(0, 0), ARGUMENT);
        dueThrow("look(0, 4)", () -> p.look(0, 4), ARGUMENT);
        CountedProver refuted = CountedProver.of("p(c). ~p(X).");
        refuted.run(100);
        due("REFUTED", refuted.count(10), 1);
        for (int seed = 0; seed < 100; seed++) {
            due("nowhere are all true", refuted.look(seed, 1 + seed % 3), -1);
        }
    }

    private static void lookAtManyClauses() {
        says("look: how many of all CLAUSES are not");
        CountedProver p = CountedProver.of("f(f(X,Y),Z) = f(X,f(Y,Z)). f(X,Y) = f(Y,X). p(f(a,X)) | q(X). ~p(f(X,b)) | r(X).");
        p.runToTheEnd();
        holds("there are many", p.count(0) > 100);
        int suits = 0;
        for (int seed = 0; seed < 100; seed++) {
            int answer = p.look(seed, 1 + seed % 3);
            suits += answer == 0 ? 1 : 0;
            // what is inferred follows, so where the TEXT is true none can be false
            holds("-1 or none", answer == 0 || answer == -1);
            due("as search says", p.search(seed, 1 + seed % 3, 1), answer);
        }
        holds("some suit", suits > 0);
    }

    /** SYMBOLS 1, 2, .. are PREDICATES; those with a 1 there are to be true, the others false. */
    private static boolean suits(int seed, String pattern) {
        boolean all = true;
        for (int k = 1; k <= pattern.length(); k++) {
            all &= isOdd(seed, k) == (pattern.charAt(k - 1) == '1');
        }
        return all;
    }

    private static int farOf(int seed, String pattern) {
        for (int i = 0; i < 50; i++) {
            if (suits(seed + i, pattern)) {
                return i;
            }
        }
        return -1;
    }

    private static void searchFarAway() {
        says("search: how far from seed, 0 .. n - 1, the first seed is; n is not 1 .. 50");
        int[] start = new int[51];
        for (int seed = 1; seed < 100000; seed++) {
            start[farOf(seed, "11111") + 1] = seed;
        }
        CountedProver p = CountedProver.of("a. b. c. d. e.");
        for (int far = -1; far < 50; far++) {
            int seed = start[far + 1];
            holds("there is a seed with " + far, seed > 0);
            due("search(" + seed + ", 1, 50)", p.search(seed, 1, 50), far);
            due("search(" + seed + ", 3, 50)", p.search(seed, 3, 50), far);
            if (far > 0) {
                due("not within " + far, p.search(seed, 2, far), -1);
            }
            if (far >= 0) {
                due("within " + (far + 1), p.search(seed, 2, far + 1), far);
            }
        }
        dueThrow("search(0, 1, 0)", () -> p.search(0, 1, 0), ARGUMENT);
        dueThrow("search(0, 1, 51)", () -> p.search(0, 1, 51), ARGUMENT);
        dueThrow("search(0, 0, 50)", () -> p.search(0, 0, 50), ARGUMENT);
        dueThrow("search(0, 4, 50)", () -> p.search(0, 4, 50), ARGUMENT);
    }

    private static void searchWraps() {
        says("search: the first seed (they wrap)");
        CountedProver p = CountedProver.of("~a. b. ~c.");
        int wrapped = 0;
        for (int before = 0; before < 50; before++) {
            int seed = MOST - before;
            int far = farOf(seed, "010");
            wrapped += far > before ? 1 : 0;
            due("search(" + seed + ", 2, 50)", p.search(seed, 2, 50), far);
        }
        holds("some are found behind the greatest", wrapped > 0);
        for (int seed = -30; seed < 10; seed++) {
            due("search(" + seed + ", 2, 50)", p.search(seed, 2, 50), farOf(seed, "010"));
        }
    }

    private static void count() {
        says("count: 0 .. 13. Else -1");
        CountedProver[] all = {new CountedProver(), started(), run(100), saturated(), faulty()};
        for (CountedProver p : all) {
            for (int what : WHATS_BEYOND) {
                due("count(" + what + ")", p.count(what), -1);
            }
            due("count(14)", p.count(14), -1);
            holds("count(13) is OUT's length", p.count(13) >= 0);
        }
    }
}
