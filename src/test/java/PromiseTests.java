/**
 * The promises of the document, one after the other: ordinary inputs, the edges that it names, and
 * wrong inputs. What is due was worked out by hand from the document; where program and hand differed, the
 * document was read again.
 */
public final class PromiseTests extends Checks {
    private static final String SOCRATES = "man(socrates). man(X) => mortal(X). prove mortal(socrates).";

    private PromiseTests() {
    }

    public static void main(String[] args) {
        newObject();
        feed();
        end();
        read();
        faultsOfWords();
        faultsOfNames();
        run();
        clause();
        rewrote();
        literal();
        greaterSides();
        eligibleOnes();
        show();
        clausesOfFormulas();
        witnesses();
        out();
        symbol();
        proof();
        step();
        look();
        search();
        count();
        inferences();
        simplification();
        sixtyTimes();
        full();
        finish();
    }

    private static void newObject() {
        says("promise 1");
        CountedProver p = new CountedProver();
        int[] counts = {0, 0, 0, 0, 0, 0, 0, 0, 0, 0, 0, 1, 0, 0};
        for (int what = 0; what < counts.length; what++) {
            due("count(" + what + ")", p.count(what), counts[what]);
        }
        due("fault(0)", p.fault(0), 0);
        due("fault(1)", p.fault(1), 0);
        due("proof()", p.proof(), 0);
        due("look(3, 2)", p.look(3, 2), 0);
        due("search(3, 2, 5)", p.search(3, 2, 5), 0);
        dueThrow("out(0)", () -> p.out(0), INDEX);
        dueThrow("clause(0, 0)", () -> p.clause(0, 0), ELEMENT);
        due("run(1)", p.run(1), 2);
    }

    private static void feed() {
        says("promise 2");
        CountedProver p = new CountedProver();
        due("feed", p.feed(0x61203d20, 0x622e2020, 0x20202020, 0x20202020, 0x20202063), 20);
        due("feed", p.feed(0x20213d20, 0x622e0a0d, 0x09202525, 0xff80ff00, -1), 40);
        due("read of both", p.read(), 2);
        due("clauses", p.allShown(), "a = b. c != b.");
        dueThrow("no room for 20", PromiseTests::feedWithoutRoom, STATE);
    }

    /** That many bytes need more than 512 calls: an object that has less room would throw sooner. */
    private static int feedWithoutRoom() {
        CountedProver p = new CountedProver().goBeyond();
        for (int i = 1; i <= 3276; i++) {
            due("feed " + i, p.feed(0, 0, 0, 0, 0), 20 * i);
        }
        return p.feed(0, 0, 0, 0, 0);
    }

    private static void end() {
        says("promise 3");
        CountedProver p = CountedProver.fed("a. b. c. d. e. f. g.");
        due("end(20)", p.end(20), 20);
        dueThrow("end(21)", () -> p.end(21), ARGUMENT);
        dueThrow("end(-1)", () -> p.end(-1), ARGUMENT);
        due("length", p.count(12), 20);
        due("end(8)", p.end(8), 8);
        dueThrow("end(9)", () -> p.end(9), ARGUMENT);
        due("read", p.read(), 3);
        due("end(0)", p.end(0), 0);
        dueThrow("end(1)", () -> p.end(1), ARGUMENT);
    }

    private static void read() {
        says("promise 4");
        CountedProver p = CountedProver.of(SOCRATES);
        due("clauses", p.count(1), 3);
        due("the tape is empty", p.count(12), 0);
        due("run", p.run(100), 1);
        due("show", p.show(0), 13);
        p.feedText("a | b. c = d.");
        due("read", p.read(), 2);
        int[] counts = {2, 2, 2, 0, 0, 0, 0, 0, 0, 0, 0, 5, 0, 13};
        for (int what = 0; what < counts.length; what++) {
            due("count(" + what + ") of the new text", p.count(what), counts[what]);
        }
        due("proof", p.proof(), 0);
        due("out stays", p.out(12), ')');
        p.feedText("a. a(b).");
        due("read with a fault", p.read(), -1);
        due("clauses", p.count(0), 0);
        due("symbols", p.count(11), 1);
        due("the tape", p.count(12), 0);
        due("state", p.count(10), 0);
        dueThrow("symbol(1, 0)", () -> p.symbol(1, 0), ELEMENT);
        due("run", p.run(1), 2);
        due("read of nothing", p.read(), 0);
        due("no fault", p.fault(0), 0);
        due("open", p.count(10), 0);
        due("tautologies are none", CountedProver.of("a | ~a. b = b. c.").count(1), 1);
        due("with sides changed", CountedProver.of("b = c | a | c != b. b = c | b != c. f(X) = X | X != f(X).").count(1), 0);
        due("only the same TERMS", CountedProver.of("b = c | c != d. f(X) = Y | Y != f(Y). p(X) | ~p(Y).").count(1), 3);
        due("reduced before", CountedProver.of("b != b | b = c | c = b | b != b | p(Y,X) | c = b.").allShown(), "b = c | p(X0,X1).");
        due("names that begin alike", CountedProver.of("ab. a. abc. ab. a_. aB.").count(11), 6);
        cut("abc.", 2, 2);
        cut("a => b.", 3, 3);
        cut("a = !=.", 5, 4);
        cut("a <=> b.", 4, 2);
        cut("a. b.", 2, 0);
    }

    /** What was cut off the tape is no part of the TEXT. */
    private static void cut(String text, int length, int place) {
        CountedProver p = CountedProver.fed(text);
        p.end(length);
        p.read();
        due("the fault of " + text.substring(0, length), p.fault(1), place);
    }

    private static void faultsOfWords() {
        says("promise 5");
        fault("", 0, 0);
        fault(" \t\r\n% all this is a note", 0, 0);
        fault("a%b\n.", 0, 0);
        fault("a", 1, 1);
        fault("a  ", 1, 3);
        fault("a b.", 1, 2);
        fault("a$.", 1, 1);
        fault("1a.", 1, 0);
        fault("_a.", 1, 0);
        fault("a_1B.", 0, 0);
        fault("a.\u0080", 1, 2);
        fault(times("a", 31) + ".", 0, 0);
        fault("b. " + times("a", 32) + ".", 1, 3);
        fault("a <= b.", 1, 2);
        fault("a !=> b.", 1, 4);
        fault("a==>b.", 1, 2);
        fault("a <=> b <=> c.", 1, 8);
        fault("! X : a <=> b <=> c.", 0, 0);
        fault("a <=> ! X : b <=> c <=> d.", 1, 20);
        fault("! : a.", 1, 2);
        fault("! X, Y : a.", 1, 3);
        fault("! a : a.", 1, 2);
        fault("? X a.", 1, 4);
        fault("p().", 1, 2);
        fault("p(a,).", 1, 4);
        fault("p(a b).", 1, 4);
        fault("X.", 1, 1);
        fault("X(a).", 1, 1);
        fault("(a) = b.", 1, 4);
        fault("a = (b).", 1, 4);
        fault("(a.", 1, 2);
        fault("a).", 1, 1);
        fault("prove.", 1, 5);
        fault("prove = a.", 1, 6);
        fault("prove prove(a).", 0, 0);
        fault("p(prove).", 0, 0);
        CountedProver p = CountedProver.of("a b.");
        due("fault(-1)", p.fault(-1), -1);
        due("fault(2)", p.fault(2), -1);
    }

    private static void faultsOfNames() {
        says("promise 5");
        fault("p(a). p.", 2, 6);
        fault("p(a) & a.", 2, 7);
        fault("a. b = a.", 2, 7);
        fault("f(f(a,b)) = c.", 2, 0);
        fault("p(f(a),f(a,b)).", 2, 7);
        fault("p(p).", 2, 0);
        fault("a. a = @.", 2, 3);
        fault("a = b. a @.", 2, 7);
        fault("a = b. a", 2, 7);
        fault("a. a @.", 1, 5);
        fault("p(a,b). p(a @", 1, 12);
        fault("p(a,b). p(a) @", 2, 8);
        fault("p(f(a)). q(f @", 2, 11);
        fault("prove a. prove | a.", 1, 15);
    }

    private static void run() {
        says("promise 6");
        CountedProver p = CountedProver.of(SOCRATES);
        dueThrow("run(0)", () -> p.run(0), ARGUMENT);
        dueThrow("run(101)", () -> p.run(101), ARGUMENT);
        dueThrow("run(-5)", () -> p.run(-5), ARGUMENT);
        due("run(1)", p.run(1), 0);
        due("steps", p.count(4), 1);
        due("run(3)", p.run(3), 0);
        due("steps", p.count(4), 4);
        due("run(100)", p.run(100), 1);
        due("the fifth step takes the least number", p.count(4), 5);
        due("run(1) again", p.run(1), 1);
        dueThrow("run(0)", () -> p.run(0), ARGUMENT);
        due("steps", p.count(4), 5);
        CountedProver q = CountedProver.of("a. b.");
        due("two steps for two clauses", q.run(2), 0);
        due("run(1)", q.run(1), 2);
        due("that is no step", q.count(4), 2);
        due("run(100)", q.run(100), 2);
        CountedProver r = CountedProver.of("a != a.");
        due("the empty clause of the text", r.run(1), 1);
        due("steps", r.count(4), 1);
        due("nothing", CountedProver.of("").run(1), 2);
        // by weight, then by number; the fifth one by number alone
        CountedProver s = CountedProver.of("p(f(f(f(f(c))))). p(f(f(f(c)))). p(f(f(c))). p(f(c)). p(c). q(c).");
        int[] order = {4, 5, 3, 2, 0, 1};
        for (int i = 0; i < order.length; i++) {
            s.run(1);
            due("processed by step " + (i + 1), s.clause(order[i], 6), 1);
        }
    }

    private static void clause() {
        says("promise 7");
        CountedProver p = CountedProver.of(SOCRATES);
        due("clause 0", p.facts(0), "0 -1 -1 1 3 0 0 0");
        due("clause 1", p.facts(1), "0 -1 -1 2 6 1 0 0");
        dueThrow("clause(3, 0)", () -> p.clause(3, 0), ELEMENT);
        p.run(100);
        due("clause 0", p.facts(0), "0 -1 -1 1 3 0 1 0");
        due("clause 2", p.facts(2), "0 -1 -1 1 3 0 2 0");
        due("clause 3", p.facts(3), "1 0 1 1 3 0 1 0");
        due("clause 4", p.facts(4), "4 2 -1 0 0 0 2 1");
        dueThrow("clause(5, 0)", () -> p.clause(5, 0), ELEMENT);
        dueThrow("clause(-1, 0)", () -> p.clause(-1, 0), ELEMENT);
        dueThrow("clause(0, 8)", () -> p.clause(0, 8), ARGUMENT);
        dueThrow("clause(0, -1)", () -> p.clause(0, -1), ARGUMENT);
        dueThrow("clause(5, 8)", () -> p.clause(5, 8), ELEMENT);
    }

    private static void rewrote() {
        says("promise 8");
        CountedProver p = CountedProver.of("f(X) = X. g(X) = X. p(f(g(f(c)))). ~p(c).");
        p.run(100);
        due("state", p.count(10), 1);
        // ~p(c), f, g, then p(f(g(f(c)))), as what p(c) is
        due("clause 4", p.shown(4), "p(c)");
        due("from", p.facts(4), "4 2 -1 1 3 0 1 2");
        due("rewrote(4, 0)", p.rewrote(4, 0), 0);
        due("rewrote(4, 1)", p.rewrote(4, 1), 1);
        due("each time counts", p.count(8), 4);
        dueThrow("rewrote(4, 2)", () -> p.rewrote(4, 2), ELEMENT);
        dueThrow("rewrote(4, -1)", () -> p.rewrote(4, -1), ELEMENT);
        dueThrow("rewrote(0, 0)", () -> p.rewrote(0, 0), ELEMENT);
        dueThrow("rewrote(-1, 0)", () -> p.rewrote(-1, 0), ELEMENT);
        dueThrow("rewrote(99, 0)", () -> p.rewrote(99, 0), ELEMENT);
    }

    private static void literal() {
        says("promise 9");
        CountedProver p = CountedProver.of("a = b | c != d | f(c) != d | f(d) != c.");
        due("the first of the heaviest", p.literals(0), "1202 0202 0113 0103");
        p = CountedProver.of("f(X) = g(X) | p(X) | p(f(X)).");
        due("f, g, p: 1, 2, 3", p.literals(0), "1204 1103 1114");
        p = CountedProver.of("X = a | f(X,Y) = Y.");
        due("X and a: none is greater", p.literals(0), "1002 1114");
        p = CountedProver.of("h(X,b) = h(b,X). h(b,a) = h(a,b). a != b.");
        due("lexically", p.literals(0), "1016");
        due("h(b,a) and h(a,b)", p.literals(1), "1216");
        due("a and b", p.literals(2), "0112");
        p = CountedProver.of("e = a | e = b. b = c | a = c.");
        due("e = b is greater", p.literals(0), "1202 1212");
        due("a is 2, b 3, c 4", p.literals(1), "1212 1202");
        CountedProver q = p;
        dueThrow("literal(0, 2, 0)", () -> q.literal(0, 2, 0), ELEMENT);
        dueThrow("literal(0, -1, 0)", () -> q.literal(0, -1, 0), ELEMENT);
        dueThrow("literal(2, 0, 0)", () -> q.literal(2, 0, 0), ELEMENT);
        dueThrow("literal(0, 0, 4)", () -> q.literal(0, 0, 4), ARGUMENT);
        dueThrow("literal(0, 0, -1)", () -> q.literal(0, 0, -1), ARGUMENT);
        dueThrow("literal(0, 2, 4)", () -> q.literal(0, 2, 4), ELEMENT);
        q.run(100);
        due("whatever the state", q.literals(0), "1202 1212");
    }

    /** Which side of the first LITERAL is GREATER. The NAMES before it fix their order: a 1, b 2, k 3, f 4, g 5. */
    private static void greater(String equation, int side) {
        CountedProver p = CountedProver.of("a = b. k(a) = a. f(a,a) = a. g(a,a) = a. " + equation + ".");
        due(equation, p.literal(4, 0, 1), side);
    }

    private static void greaterSides() {
        says("promise 9: GREATER");
        greater("f(X,X) = k(X)", 1);
        greater("k(X) = f(X,X)", 2);
        greater("f(X,Y) = k(Y)", 1);
        greater("f(X,Y) = k(k(X))", 1);
        greater("k(k(k(X))) = f(X,Y)", 0);
        greater("f(X,a) = f(Y,a)", 0);
        greater("f(X,X) = g(X,Y)", 0);
        greater("f(X,Y) = g(Y,X)", 2);
        greater("k(X) = X", 1);
        greater("X = k(X)", 2);
        greater("X = k(Y)", 0);
        greater("X = a", 0);
        greater("X = Y", 0);
        greater("k(k(a)) = k(b)", 1);
        greater("b = a", 1);
        greater("k(a) = k(b)", 2);
        greater("f(a,b) = f(b,a)", 2);
        greater("f(X,b) = f(X,a)", 1);
        greater("f(X,Y) = f(Y,X)", 0);
        greater("f(X,a) = f(a,X)", 0);
        greater("f(k(X),X) = f(X,k(X))", 1);
        greater("f(X,k(X)) = f(k(X),X)", 2);
        greater("f(k(X),Y) = f(X,k(Y))", 1);
        greater("f(k(X),Y) = f(Y,k(X))", 0);
        greater("f(k(k(a)),a) = f(k(a),k(b))", 1);
        greater("f(f(a,b),X) = f(f(b,a),X)", 2);
        greater("k(f(X,a)) = k(f(X,b))", 2);
        greater("p", 1);
        greater("~p(X)", 1);
    }

    private static void eligibleOnes() {
        says("promise 9: ELIGIBLE");
        CountedProver p = CountedProver.of("a = b | a = c. a = c | b = c. p | q | r. s(X) | t(Y). f(X) = a | f(a) = X.");
        due("c is GREATER than b", p.literals(0), "1202 1212");
        due("b than a, as c goes", p.literals(1), "1202 1212");
        due("the last NAME", p.literals(2), "1102 1102 1112");
        due("with other VARIABLES", p.literals(3), "1113 1113");
        due("neither", p.literals(4), "1113 1013");
        p = CountedProver.of("p | ~q(a) | ~r(a) | s(a,a).");
        due("the first != of the heaviest alone", p.literals(0), "1102 0113 0103 1104");
    }

    private static void show() {
        says("promise 10");
        CountedProver p = CountedProver.of(" p ( X , f(Y,c) )|~q|X!=Y | f(X,X) = c. c != c. ? X : ! Y : ? Z : r(X,Y,Z).");
        due("clause 0", p.shown(0), "p(X0,f(X1,c)) | ~q | X0 != X1 | f(X0,X0) = c");
        due("clause 1", p.shown(1), "false");
        due("clause 2", p.shown(2), "r(w0,X0,w1(w0,X0))");
        due("its length", p.show(2), 18);
        due("and in count", p.count(13), 18);
        dueThrow("show(3)", () -> p.show(3), ELEMENT);
        dueThrow("show(-1)", () -> p.show(-1), ELEMENT);
        due("out stays by a throw", p.count(13), 18);
        due("reduced", CountedProver.of("p(Y) | a != a | q(X,Y) | p(Y) | b = c | c = b.").allShown(), "p(X0) | q(X1,X0) | b = c.");
        due("w10", CountedProver.of(times("? X : a. ", 10) + "? X : p(X).").shown(10), "p(w10)");
        due("w100", CountedProver.of(times("? X : a. ", 100) + "? X : p(X).").shown(100), "p(w100)");
    }

    private static void clausesOfFormulas() {
        says("promise 4");
        String[] texts = {
            "a & b & c.", "a. b. c.",
            "~(a & b & c).", "~a | ~b | ~c.",
            "~(a | b).", "~a. ~b.",
            "a | b & c | d.", "a | b | d. a | c | d.",
            "(a & b) | (c & d).", "a | c. a | d. b | c. b | d.",
            "a => b => c.", "~a | ~b | c.",
            "(a => b) => c.", "a | c. ~b | c.",
            "~(a => b).", "a. ~b.",
            "a <=> b.", "~a | b. ~b | a.",
            "~(a <=> b).", "a | b. ~a | ~b.",
            "prove a <=> ~b.", "a | ~b. ~a | b.",
            "a <=> b & c.", "~a | b. ~a | c. ~b | ~c | a.",
            "a != b.", "a != b.",
            "~ a != b.", "a = b.",
            "~ a = b & c.", "a != b. c.",
            "prove ! X : p(X) & q.", "~p(w0) | ~q.",
            "! X : p(X) <=> q <=> r.", "p(w0) | q | r. ~p(w0) | ~q | r. ~r | ~p(X0) | q. ~r | ~q | p(X0).",
        };
        for (int i = 0; i < texts.length; i += 2) {
            due(texts[i], CountedProver.of(texts[i]).allShown(), texts[i + 1]);
        }
    }

    private static void witnesses() {
        says("promise 4");
        String[] texts = {
            "(? Y : p(Y)) & q(X).", "p(w0(X0)). q(X0).",
            "prove p(X,Y).", "~p(w0,w1(w0)).",
            "prove (? Z : p(Z)) & q(X).", "~p(X0) | ~q(w0).",
            "prove (! Z : p(Z)) & q(X).", "~p(w0(w1)) | ~q(w1).",
            "! X : ? Y : ! Z : ? U : p(X,Y,Z,U).", "p(X0,w0(X0),X1,w1(X0,w0(X0),X1)).",
            "! X : ! X : ? Y : p(X,Y).", "p(X0,w0(X1,X0)).",
            "? X : ? X : p(X).", "p(w1(w0)).",
            "? X Y : p(Y,X).", "p(w1(w0),w0).",
            "a <=> ! X : ? Y : p(X,Y).", "~a | p(X0,w1(X0)). ~p(w0,X0) | a.",
            "(? X : p(X)) | p(X).", "p(w0(X0)) | p(X0).",
            "~ (! X : p(X)).", "~p(w0).",
            "~ (? X : p(X)).", "~p(X0).",
            "~ ~ ? X : p(X).", "p(w0).",
            "(! X : p(X)) => q.", "~p(w0) | q.",
            "(? X : p(X)) => q.", "~p(X0) | q.",
            "q => ? X : p(X).", "~q | p(w0).",
            "q => ! X : p(X).", "~q | p(X0).",
            "~ ((? X : p(X)) => ? Y : q(Y)).", "p(w0). ~q(X0).",
            "(! X : p(X)) & q => r.", "~p(w0) | ~q | r.",
            "~ ((! X : p(X)) | q).", "~p(w0). ~q.",
            "~ ((! X : p(X)) <=> q).", "p(X0) | q. ~p(w0) | ~q.",
            "~ (~ (? X : p(X)) <=> q).", "~p(X0) | q. p(w0) | ~q.",
            "(! X : p(X)) <=> ? Y : q(Y).", "~p(w0) | q(w1). ~q(X0) | p(X1).",
        };
        for (int i = 0; i < texts.length; i += 2) {
            due(texts[i], CountedProver.of(texts[i]).allShown(), texts[i + 1]);
        }
        due("one that stands nowhere", CountedProver.of("? X : a.").count(11), 3);
        due("one that stays", CountedProver.of("! X : a.").count(11), 2);
    }

    private static void out() {
        says("promise 11");
        CountedProver p = CountedProver.of("ab.");
        dueThrow("out(0) before show", () -> p.out(0), INDEX);
        p.show(0);
        due("out(0)", p.out(0), 'a');
        due("out(1)", p.out(1), 'b');
        dueThrow("out(2)", () -> p.out(2), INDEX);
        dueThrow("out(-1)", () -> p.out(-1), INDEX);
    }

    private static void symbol() {
        says("promise 12");
        CountedProver p = CountedProver.of("p(f(a,b)) & ? X : ! Y : ? Z : q. prove g(X) = a.");
        due("symbols", p.symbols(), "010 110 200 000 000 010 100 001 201 001");
        dueThrow("symbol(10, 0)", () -> p.symbol(10, 0), ELEMENT);
        dueThrow("symbol(-1, 0)", () -> p.symbol(-1, 0), ELEMENT);
        dueThrow("symbol(0, 3)", () -> p.symbol(0, 3), ARGUMENT);
        dueThrow("symbol(0, -1)", () -> p.symbol(0, -1), ARGUMENT);
        dueThrow("symbol(10, 3)", () -> p.symbol(10, 3), ELEMENT);
        due("prove is a name elsewhere", CountedProver.of("prove a. prove prove.").symbols(), "010 010 010");
        due("in the order of the variables", CountedProver.of("(? Y : p(Y)) & q(X). prove r(Z,X).").symbols(), "010 110 110 210 101 001 101");
    }

    private static void proof() {
        says("promise 13");
        CountedProver p = CountedProver.of("q(a). " + SOCRATES);
        due("not yet", p.proof(), 0);
        p.run(2);
        due("not yet", p.proof(), 0);
        due("run", p.run(100), 1);
        due("proof", p.proof(), 5);
        CountedProver q = CountedProver.of("a. b.");
        q.run(100);
        due("saturated", q.proof(), 0);
        CountedProver r = CountedProver.of("b. a != a.");
        r.run(100);
        due("of the text", r.proof(), 1);
        due("its step", r.step(0), 1);
    }

    private static void step() {
        says("promise 14");
        CountedProver p = CountedProver.of("q(a). " + SOCRATES);
        dueThrow("step(0) before", () -> p.step(0), INDEX);
        p.run(100);
        int[] steps = {1, 2, 3, 4, p.count(0) - 1};
        for (int i = 0; i < steps.length; i++) {
            due("step(" + i + ")", p.step(i), steps[i]);
        }
        dueThrow("step(5)", () -> p.step(5), INDEX);
        dueThrow("step(-1)", () -> p.step(-1), INDEX);
        p.feedText("a.");
        p.read();
        dueThrow("step(0) after a read", () -> p.step(0), INDEX);
    }

    /** The number h, as the document tells it. */
    private static int h(int seed, int... numbers) {
        int h = seed;
        for (int number : numbers) {
            h = 31 * (h ^ (h >>> 7)) + number + 1;
        }
        h = (h ^ (h >>> 15)) * 739982445;
        return h ^ (h >>> 12);
    }

    private static void look() {
        says("promise 15");
        // p is 1, f is 2, a is 3
        CountedProver p = CountedProver.of("p(f(a)). ~p(a).");
        CountedProver all = CountedProver.of("p(f(X)) | a = X.");
        int seen = 0;
        for (int seed = -60; seed < 60; seed++) {
            for (int m = 1; m <= 3; m++) {
                int a = (h(seed, 3) & 0x7fffffff) % m;
                int fa = (h(seed, 2, a) & 0x7fffffff) % m;
                boolean suits = (h(seed, 1, fa) & 1) == 1 && (h(seed, 1, a) & 1) == 0;
                seen += suits ? 1 : 0;
                due("look(" + seed + ", " + m + ")", p.look(seed, m), suits ? 0 : -1);
                boolean forAll = true;
                for (int x = 0; x < m; x++) {
                    int fx = (h(seed, 2, x) & 0x7fffffff) % m;
                    forAll &= (h(seed, 1, fx) & 1) == 1 || a == x;
                }
                due("look(" + seed + ", " + m + ") for all", all.look(seed, m), forAll ? 0 : -1);
            }
        }
        due("some suit", seen > 0 ? 1 : 0, 1);
        dueThrow("look(0, 0)", () -> p.look(0, 0), ARGUMENT);
        dueThrow("look(0, 4)", () -> p.look(0, 4), ARGUMENT);
        CountedProver refuted = CountedProver.of(SOCRATES);
        refuted.run(100);
        due("never", refuted.search(0, 3, 50), -1);
        // nothing that is inferred is false where the text is true
        CountedProver group = CountedProver.of("mul(e,X) = X. mul(i(X),X) = e. mul(mul(X,Y),Z) = mul(X,mul(Y,Z)).");
        group.run(60);
        due("one element is a group", group.look(5, 1), 0);
    }

    private static int firstThatSuits(CountedProver p, int seed) {
        int first = -1;
        for (int i = 49; i >= 0; i--) {
            first = p.look(seed + i, 2) == 0 ? i : first;
        }
        return first;
    }

    private static void search() {
        says("promise 16");
        String text = "p(f(a)). ~p(a). X = a | X = f(a).";
        int found = 0;
        for (int seed = -40; seed < 40; seed++) {
            CountedProver at = CountedProver.of(text);
            int first = firstThatSuits(at, seed);
            found += first > 0 ? 1 : 0;
            due("search(" + seed + ", 2, 50)", at.search(seed, 2, 50), first);
            if (first >= 1) {
                due("search up to it", at.search(seed, 2, first), -1);
                due("search with it", at.search(seed, 2, first + 1), first);
            }
        }
        holds("some are found", found > 0);
        CountedProver p = CountedProver.of(text);
        int last = Integer.MAX_VALUE - 1;
        due("seeds wrap", p.search(last, 2, 50), firstThatSuits(p, last));
        dueThrow("search(0, 0, 1)", () -> p.search(0, 0, 1), ARGUMENT);
        dueThrow("search(0, 4, 1)", () -> p.search(0, 4, 1), ARGUMENT);
        dueThrow("search(0, 1, 0)", () -> p.search(0, 1, 0), ARGUMENT);
        dueThrow("search(0, 1, 51)", () -> p.search(0, 1, 51), ARGUMENT);
        due("no clauses", CountedProver.of("").search(9, 1, 1), 0);
    }

    private static void counts(CountedProver p, int... due) {
        for (int what = 0; what < due.length; what++) {
            due("count(" + what + ")", p.count(what), due[what]);
        }
    }

    private static void count() {
        says("promise 17");
        CountedProver p = CountedProver.fed(SOCRATES);
        due("the tape", p.count(12), 59);
        p.read();
        counts(p, 3, 3, 3, 0, 0, 0, 0, 0, 0, 0, 0, 4, 0, 0);
        p.run(1);
        counts(p, 3, 3, 2, 1, 1, 1, 0, 0, 0, 1, 0, 4);
        p.run(2);
        counts(p, 4, 3, 1, 3, 3, 2, 0, 0, 0, 1, 0, 4);
        p.run(1);
        counts(p, 4, 3, 1, 3, 4, 3, 0, 0, 0, 2, 0, 4);
        p.run(1);
        counts(p, 5, 3, 0, 3, 5, 3, 0, 0, 1, 2, 1, 4);
        due("count(-1)", p.count(-1), -1);
        due("count(14)", p.count(14), -1);
        due("TAUTOLOGIES of the TEXT are not counted", CountedProver.of("a | ~a. b = b.").counts(), "0 0 0 0 0 0 0 0 0 0 0 3 0 0");
    }

    /** What the INFERENCES of a TEXT whose CLAUSES are all processed in their order give. */
    private static void inferences() {
        says("promise 6");
        CountedProver p = CountedProver.of("p(X) | p(f(Y)) | X = Y.");
        p.run(1);
        // self-superposition from and into each eligible side, and factoring of p(X) with p(f(Y))
        due("a factor", p.shown(p.count(0) - 1), "f(X0) = X0 | p(f(X0))");
        due("from", p.clause(p.count(0) - 1, 0), 3);
        CountedProver q = CountedProver.of("f(X) != f(a) | p(X).");
        q.run(1);
        due("resolution", q.allShown(), "f(X0) != f(a) | p(X0). p(a).");
        due("from", q.facts(1), "2 0 -1 1 3 0 0 0");
        CountedProver r = CountedProver.of("f(X,b) = X | q. g(f(a,Y)) = Y.");
        r.run(2);
        due("superposition", r.shown(2), "q | g(a) = b");
        CountedProver met = CountedProver.of("q | f(Z,Z,Z,Z) = a. p(f(g(k(c)),g(X),g(X),g(X))).");
        met.run(2);
        due("a value that is met again", met.shown(2), "q | p(a)");
        CountedProver within = CountedProver.of("q | f(Z,Z) = a. p(f(X,g(X))).");
        within.run(2);
        due("no term is within itself", within.count(0), 2);
        due("no variable is for a predicate", CountedProver.of("X = a. p(b). ~q(b).").run(100), 2);
        // p of TERMS of weight 1, 3, 7, .. 63 within the BOUNDS; each is a tautology with itself
        CountedProver s = CountedProver.of("p(X) => p(f(X,X)). p(a).");
        due("saturated", s.run(100), 2);
        counts(s, 7, 2, 0, 7, 7, 12, 1, 0, 0, 6);
    }

    private static void simplification() {
        says("promise 6");
        CountedProver p = CountedProver.of("p(a) | q. p(X).");
        p.run(1);
        due("p(X) first", p.clause(1, 6), 1);
        p.run(1);
        due("a tautology by rewriting", p.count(9), 2);
        due("none is made", p.count(0), 2);
        CountedProver s = CountedProver.of("~p(a) | ~q(b). ~p(X). ~q(b) | ~p(a) | r.");
        s.run(2);
        due("~p(X) subsumes the first", s.count(7), 1);
        due("it is gone", s.clause(0, 6), 2);
        s.run(1);
        due("and the last", s.count(7), 2);
        CountedProver back = CountedProver.of("~p(f(a)). f(X) = X.");
        back.run(2);
        due("f(X) = X is processed", back.clause(1, 6), 1);
        due("so ~p(f(a)) is passive or gone", back.clause(0, 6) == 1 ? 1 : 0, 0);
        CountedProver later = CountedProver.of("~p(a,f(a)). q(f(f(b))) | r. g(f(X),X,X) = g(X,X,X).");
        later.run(3);
        due("no side matches", later.clause(0, 6), 1);
        CountedProver again = CountedProver.of("~p(f(a)). f(f(X)) != c. f(X) = g(X,X,X).");
        again.run(3);
        due("a smaller side does not rewrite", again.clause(0, 6), 1);
        CountedProver both = CountedProver.of("~p(f(a,b)). f(X,Y) = f(Y,X).");
        both.run(2);
        due("f(a,b) is not greater than f(b,a)", both.clause(0, 6), 1);
        CountedProver turned = CountedProver.of("~p(f(b,a)). p(f(b,a)) | q(a,b). f(X,Y) = f(Y,X).");
        turned.run(3);
        due("p 1, f 2, b 3, a 4: nor f(b,a) than f(a,b)", turned.clause(0, 6), 1);
    }

    private static void sixtyTimes() {
        says("promise 6");
        CountedProver p = CountedProver.of("f(X) = X. p(" + times("f(", 30) + "c" + times(")", 30) + ","
            + times("f(", 31) + "c" + times(")", 31) + ").");
        p.run(2);
        due("after sixty times", p.shown(2), "p(c,f(c))");
        due("sixty", p.count(8), 60);
        due("one did it all", p.clause(2, 7), 1);
    }

    private static void full() {
        says("promise 6");
        CountedProver p = CountedProver.of("ap(ap(ap(s,X),Y),Z) = ap(ap(X,Z),ap(Y,Z)). ap(ap(k,X),Y) = X."
            + " prove ? X : ! Y : ap(X,Y) = ap(Y,ap(X,Y)).");
        int state = 0;
        for (int i = 0; i < 40 && state == 0; i++) {
            state = p.run(100);
        }
        due("full", state, 3);
        due("clauses", p.count(0), 2000);
        int steps = p.count(4);
        int inferences = p.count(5);
        due("nothing more is done", p.run(100), 3);
        due("steps", p.count(4), steps);
        due("inferences", p.count(5), inferences);
        dueThrow("clause(2000, 0)", () -> p.clause(2000, 0), ELEMENT);
        due("no proof", p.proof(), 0);
        p.feedText(SOCRATES);
        due("read", p.read(), 3);
        due("run", p.run(100), 1);
    }
}
