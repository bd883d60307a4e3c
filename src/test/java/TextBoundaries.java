/**
 * The boundaries that the document names for the TAPE and the TEXT, sentence by sentence: the last that is
 * allowed and the first that is not. The sentences stand as they are told when a check fails.
 */
public final class TextBoundaries extends Checks {

    private TextBoundaries() {
    }

    public static void main(String[] args) {
        tape();
        tapeThatIsFull();
        wordsOfThirtyOneSigns();
        everyByteBehindAName();
        everyByteBeforeAName();
        longestSigns();
        blanksAndNotes();
        noSentences();
        proveAtTheBeginning();
        oneEquivalenceAlone();
        oneOrMore();
        theEnd();
        otherUseOfAName();
        otherUseComesFirst();
        nestedSixtyDeep();
        nestedInAllWays();
        notNested();
        nestedAgain();
        nestedComesFirst();
        twoHundredFiftyNames();
        threeHundredVariables();
        threeHundredWithoutSigns();
        ofEachText();
        twentyThousandWords();
        twentyThousandComeLast();
        twentyThousandOfEachText();
        heightTwoHundred();
        heightOfOtherThings();
        twoHundredClauses();
        tooManyToCount();
        eightLiterals();
        weightOneHundred();
        sixVariables();
        beforeReduced();
        bySentences();
        mostSymbols();
        finish();
    }

    private static void tape() {
        says("feed: the four bytes of each number, the highest first, come to the TAPE: its length");
        CountedProver p = new CountedProver();
        due("feed", p.feed(0x61203d20, 0x622e2563, 0x80ff7f00, 0xffffffff, Integer.MIN_VALUE), 20);
        due("feed", p.feed(0x0a63213d, 0x612e2020, 0x20202020, 0x20202020, 0x2020207e), 40);
        due("end", p.end(39), 39);
        due("feed", p.feed(0x20202020, 0x702e2020, 0x20202020, 0x20202020, 0x20202020), 59);
        due("read", p.read(), 3);
        due("all bytes in their order", p.allShown(), "a = b. c != a. p.");
        CountedProver most = new CountedProver();
        feedBlanks(most, 510);
        due("the 511th feed", most.feed(0x20202020, 0x20202020, 0x20202020, 0x61203d20, 0x622e632e), 10220);
        due("read of all that 511 calls can feed", most.read(), 2);
    }

    private static void feedBlanks(CountedProver p, int times) {
        for (int i = 0; i < times; i++) {
            p.feed(0x20202020, 0x20202020, 0x20202020, 0x20202020, 0x20202020);
        }
    }

    /** 512 calls feed 10,240 bytes at most: this one stands for the 65,536 with more of them. */
    private static void tapeThatIsFull() {
        says("THE TAPE: bytes gathered by feed, at most 65,536");
        CountedProver p = new CountedProver().goBeyond();
        feedBlanks(p, 3276);
        due("length", p.count(12), 65520);
        dueThrow("feed behind 65,520", () -> p.feed(0, 0, 0, 0, 0), STATE);
        due("nothing changed", p.count(12), 65520);
        due("end(65517)", p.end(65517), 65517);
        dueThrow("feed behind 65,517", () -> p.feed(0, 0, 0, 0, 0), STATE);
        due("nothing changed", p.count(12), 65517);
        due("end(65516)", p.end(65516), 65516);
        due("feed", p.feed(0x20202020, 0x20202020, 0x20202020, 0x61203d20, 0x622e632e), 65536);
        dueThrow("feed behind 65,536", () -> p.feed(0, 0, 0, 0, 0), STATE);
        due("nothing changed", p.count(12), 65536);
        dueThrow("end(65537)", () -> p.end(65537), ARGUMENT);
        due("end(65536)", p.end(65536), 65536);
        due("read", p.read(), 2);
        due("the last bytes", p.allShown(), "a = b. c.");
        due("room again", p.feed(0, 0, 0, 0, 0), 20);
        CountedProver last = new CountedProver().goBeyond();
        feedBlanks(last, 3276);
        last.end(65516);
        last.feed(0x20202020, 0x20202020, 0x20202020, 0x20202020, 0x20202061);
        fault(last, "a at the TAPE's last byte", 1, 65536);
    }

    private static void wordsOfThirtyOneSigns() {
        says("WORDS are letters, digits and _, the first one a letter, at most 31 signs");
        String name = "a" + times("_9Z", 10);
        String variable = "Z" + times("_0a", 10);
        fault(name + ".", 0, 0);
        fault(name + "b.", 1, 0);
        fault("b. ~" + name + "b.", 1, 4);
        fault("p(" + name + ").", 0, 0);
        fault("p(" + name + "_).", 1, 2);
        fault("p(b,c," + name + "0).", 1, 6);
        fault("b = " + name + ".", 0, 0);
        fault("b = " + name + "1.", 1, 4);
        fault("! " + variable + " : p(" + variable + ").", 0, 0);
        fault("! X " + variable + "a : p(X).", 1, 4);
        fault("p(" + variable + ").", 0, 0);
        fault("p(" + variable + "Z).", 1, 2);
        fault(variable + "Z = b.", 1, 0);
        fault(times("a", 32), 1, 0);
        fault(times("a", 300) + ".", 1, 0);
        fault("b % " + times("a", 32) + "\n.", 0, 0);
        CountedProver p = CountedProver.of(name + ". " + times("a", 31) + ". " + times("a", 30) + "b. " + times("a", 30) + ".");
        due("NAMES that differ late", p.count(11), 5);
        due("31 signs are shown", p.shown(0), name);
        due("31 signs are shown", p.shown(1), times("a", 31));
        due("31 signs are shown", p.shown(2), times("a", 30) + "b");
        due("30 signs are shown", p.shown(3), times("a", 30));
        due("VARIABLES that differ late", CountedProver.of("p(" + variable + "," + times("Z", 31) + "," + times("Z", 30)
            + "Y," + times("Z", 30) + "," + variable + ").").allShown(), "p(X0,X1,X2,X3,X0).");
    }

    private static boolean isIn(int b, String signs) {
        return signs.indexOf(b) >= 0;
    }

    private static boolean isLetter(int b) {
        return isIn(b, "abcdefghijklmnopqrstuvwxyzABCDEFGHIJKLMNOPQRSTUVWXYZ");
    }

    private static void everyByteBehindAName() {
        says("a byte that is none of these; blanks (bytes 32, 9, 10, 13) only part them");
        for (int b = 0; b < 256; b++) {
            String text = "a" + (char) b + ".";
            if (isLetter(b) || isIn(b, "0123456789_ \t\n\r")) {
                fault(text, 0, 0);
            } else if (b == '%') {
                fault(text, 1, 3);
            } else if (isIn(b, "&|(=.")) {
                fault(text, 1, 2);
            } else {
                fault(text, 1, 1);
            }
        }
    }

    private static void everyByteBeforeAName() {
        says("WORDS are letters, digits and _, the first one a letter: a VARIABLE if that is a capital");
        for (int b = 0; b < 256; b++) {
            String text = (char) b + "x.";
            if (isLetter(b) && b <= 'Z') {
                fault(text, 1, 2);
                fault((char) b + "x = a.", 0, 0);
            } else if (isLetter(b) || isIn(b, " \t\n\r~%")) {
                fault(text, 0, 0);
            } else if (b == '(') {
                fault(text, 1, 2);
            } else if (isIn(b, "!?")) {
                fault(text, 1, 1);
            } else {
                fault(text, 1, 0);
            }
        }
    }

    private static void longestSigns() {
        says("the longest that stands there");
        fault("a!=b.", 0, 0);
        fault("a! =b.", 1, 1);
        fault("a!==b.", 1, 3);
        fault("a=!=b.", 1, 2);
        fault("a=b.", 0, 0);
        fault("a==b.", 1, 2);
        fault("a=>b.", 0, 0);
        fault("a= >b.", 1, 3);
        fault("a==>b.", 1, 2);
        fault("a=>>b.", 1, 3);
        fault("a<=>b.", 0, 0);
        fault("a<= >b.", 1, 1);
        fault("a< =>b.", 1, 1);
        fault("a<==>b.", 1, 1);
        fault("a<=>>b.", 1, 4);
        fault("a<=", 1, 1);
        fault("a<", 1, 1);
        fault("a=", 1, 2);
        fault("a!", 1, 1);
        fault("a!=", 1, 3);
        fault("a=>", 1, 3);
        fault("a<=>", 1, 4);
        fault("!X:a!=X.", 0, 0);
        fault("!X!=X:a.", 1, 2);
        fault("~!X:p(X).", 0, 0);
        fault("!=a.", 1, 0);
        // what end has cut off is no part of a sign or WORD
        CountedProver p = CountedProver.fed("a. b <=> c.");
        p.end(7);
        fault(p, "a. b <= with the rest cut off", 1, 5);
        p = CountedProver.fed("a. b <=> c.");
        p.end(6);
        fault(p, "a. b < with the rest cut off", 1, 5);
        p = CountedProver.fed("ab = cd.");
        p.end(6);
        fault(p, "ab = c with the rest cut off", 1, 6);
    }

    private static void blanksAndNotes() {
        says("what stands from % to before the next byte 10 (or the end) only part them");
        due("to the end", CountedProver.fed("a.%b.").read(), 1);
        due("to byte 10", CountedProver.fed("a.%b.\nc.").read(), 2);
        due("not to byte 13", CountedProver.fed("a.%b.\rc.").read(), 1);
        due("% in it", CountedProver.fed("a.%%%b.%\nc.%\n%\nd.").read(), 3);
        due("any byte in it", CountedProver.fed("a.% \u0000\u0080\u00ff@\n").read(), 1);
        due("it parts a WORD", CountedProver.of("p(a%\nb).").fault(1), 5);
        due("it parts a sign", CountedProver.of("a <%\n=> b.").fault(1), 2);
        due("% at the end", CountedProver.fed("a.%").read(), 1);
        fault("a%", 1, 2);
        fault("a%\n", 1, 3);
        fault("a%.\n", 1, 4);
        fault("a%.\n.", 0, 0);
    }

    private static void noSentences() {
        says("TEXT: SENTENCES (there may be none)");
        fault("", 0, 0);
        fault(" ", 0, 0);
        fault("%", 0, 0);
        fault("\n\t\r % a.\n", 0, 0);
        fault(".", 1, 0);
        fault(" . ", 1, 1);
        fault("a. .", 1, 3);
        due("read", CountedProver.fed("").read(), 0);
    }

    private static void proveAtTheBeginning() {
        says("a NAME prove at the beginning is always this, elsewhere it is a NAME");
        due("prove a.", CountedProver.of("prove a.").allShown(), "~a.");
        due("prove(a).", CountedProver.of("prove(a).").allShown(), "~a.");
        due("prove~a.", CountedProver.of("prove~a.").allShown(), "a.");
        due("prove prove.", CountedProver.of("prove prove.").allShown(), "~prove.");
        due("~prove.", CountedProver.of("~prove. a | prove.").allShown(), "~prove. a | prove.");
        due("(prove).", CountedProver.of("(prove). a = f(b).").allShown(), "prove. a = f(b).");
        due("p(prove).", CountedProver.of("p(prove). a.prove b.").allShown(), "p(prove). a. ~b.");
        due("proved", CountedProver.of("proved. prov. prove1. prove_.").allShown(), "proved. prov. prove1. prove_.");
        due("Prove", CountedProver.of("Prove = a.").allShown(), "X0 = a.");
        fault("prove.", 1, 5);
        fault("prove", 1, 5);
        fault("prove = a.", 1, 6);
        fault("prove & a.", 1, 6);
        fault("a. prove. b.", 1, 8);
        due("it is no SYMBOL", CountedProver.of("prove a.").count(11), 2);
    }

    private static void oneEquivalenceAlone() {
        says("FORMULA: IMPLICATION, perhaps <=> IMPLICATION (one alone)");
        fault("a <=> b.", 0, 0);
        fault("a <=> b <=> c.", 1, 8);
        fault("(a <=> b) <=> c.", 0, 0);
        fault("a <=> (b <=> c).", 0, 0);
        fault("(a <=> b <=> c).", 1, 9);
        fault("a => b <=> c => d.", 0, 0);
        fault("a => b <=> c => d <=> e.", 1, 18);
        fault("! X : a <=> b.", 0, 0);
        fault("a & ~ ! X : b <=> c <=> d.", 0, 0);
        fault("a <=> ! X : b <=> c.", 0, 0);
        fault("a <=> ! X : b <=> c <=> d.", 1, 20);
    }

    private static void oneOrMore() {
        says("VARIABLES (one or more, one behind the other, without signs between)");
        fault("! : a.", 1, 2);
        fault("?:a.", 1, 1);
        fault("! X : a.", 0, 0);
        fault("! X Y Z : a.", 0, 0);
        fault("! X, Y : a.", 1, 3);
        fault("! X ! Y : a.", 1, 4);
        fault("! X a.", 1, 4);
        fault("! X", 1, 3);
        fault("! X : ", 1, 6);
        fault("! x : a.", 1, 2);
        says("NAME, perhaps with ( TERMS with , between )");
        fault("p().", 1, 2);
        fault("p(a).", 0, 0);
        fault("p(a,).", 1, 4);
        fault("p(,a).", 1, 2);
        fault("p(a,,b).", 1, 4);
        fault("b = f().", 1, 6);
        fault("p(a;b).", 1, 3);
        fault("p(~a).", 1, 2);
        fault("p((a)).", 1, 2);
        fault("p(a = b).", 1, 4);
    }

    private static void theEnd() {
        says("1 a WORD or sign that can't stand there (the TEXT's end, too)");
        String[] starts = {"a", "~", "a &", "a |", "a =>", "a <=>", "(", "(a", "!", "! X", "! X :", "p(", "p(a", "p(a,",
            "p(a)", "a =", "a !=", "a = b", "X", "X =", "prove", "prove a", "a. b", "a = f(X", "(a)"};
        for (String start : starts) {
            fault(start, 1, start.length());
            fault(start + "  ", 1, start.length() + 2);
            fault(start + "% note", 1, start.length() + 6);
            fault(start + " \n@", 1, start.length() + 2);
        }
    }

    private static void otherUseOfAName() {
        says("2 a NAME as PREDICATE and as FUNCTION, or with another number of TERMS than before");
        fault("p. p.", 0, 0);
        fault("p. p(a).", 2, 3);
        fault("p(a). p.", 2, 6);
        fault("p(a). p(b). p(a,b).", 2, 12);
        fault("p(a,b). p(b).", 2, 8);
        fault("p. p = b.", 2, 3);
        fault("p. b = p.", 2, 7);
        fault("p. b != p.", 2, 8);
        fault("p. q(p).", 2, 5);
        fault("p(a). q(p(a)).", 2, 8);
        fault("q(p). p.", 2, 6);
        fault("q(p(a)). p(a).", 2, 9);
        fault("b = p. p.", 2, 7);
        fault("f(a) = b. c = f.", 2, 14);
        fault("f(a) = b. c = f(a,b).", 2, 14);
        fault("f(a) = f(b).", 0, 0);
        fault("p(p).", 2, 0);
        fault("p(q(p)).", 2, 0);
        fault("f = f(a).", 2, 4);
        fault("p(f,f(a)).", 2, 4);
        fault("p | ~p(a).", 2, 5);
        fault("prove a. prove prove. ~prove(b).", 2, 23);
        fault("p. b = p", 2, 7);
        says("its place is the NAME's; found behind its TERMS, those inside first");
        fault("f(f(a,b)) = c.", 2, 0);
        fault("p(f(a)). q(f(f(a,a))).", 2, 13);
        fault("p(a). p(b,p(c)).", 2, 10);
        fault("p(a). p(b,b @", 1, 12);
        fault("p(a). p(b,b", 1, 11);
    }

    private static void otherUseComesFirst() {
        says("where it begins an ATOM, with the WORD or sign behind: 2 comes before that one's 1 or 3");
        fault("a = b. a @", 2, 7);
        fault("a = b. a b", 2, 7);
        fault("a = b. a", 2, 7);
        fault("a = b. a " + times("b", 32), 2, 7);
        fault("a = b. a)", 2, 7);
        fault("a. a = @", 2, 3);
        fault("a. a =", 2, 3);
        fault("a. a != b", 2, 3);
        fault("a. a ! b", 1, 5);
        fault("p(a,b). p(a) @", 2, 8);
        fault("p(a,b). p(a)", 2, 8);
        fault("p(a,b). p(a) =", 2, 8);
        fault("p(a,b). p(a @", 1, 12);
        fault("f(a) = b. f(a) @", 2, 10);
        fault("f(a) = b. f(a) = @", 1, 17);
        fault("p(f(a)). q(f @", 2, 11);
        fault("p(f(a)). q(f", 2, 11);
        fault("p(f(a)). c = f @", 2, 13);
        fault("a = b. " + times("~", 60) + "a @", 2, 67);
        fault("a = b. " + times("~", 61) + "a @", 3, 68);
    }

    private static void nestedSixtyDeep() {
        says("3 what is nested more than 60 deep (in ~, behind :, behind =>, in ( ), of TERMS, too)");
        fault(times("~", 60) + "a.", 0, 0);
        fault(times("~", 61) + "a.", 3, 61);
        fault(times("!X:", 60) + "a.", 0, 0);
        fault(times("!X:", 61) + "a.", 3, 183);
        fault(times("?X:", 60) + "a.", 0, 0);
        fault(times("?X:", 61) + "a.", 3, 183);
        // a => a => .. is one CLAUSE of too many LITERALS, so it stands in ~( ), which is two deep
        fault("~(" + times("a=>", 58) + "a).", 0, 0);
        fault("~(" + times("a=>", 59) + "a).", 3, 179);
        fault(times("a=>", 61) + "a.", 3, 183);
        fault(times("a=>", 60) + "@.", 1, 180);
        fault(times("(", 60) + "a" + times(")", 60) + ".", 0, 0);
        fault(times("(", 61) + "a" + times(")", 61) + ".", 3, 61);
        fault("p(" + times("f(", 59) + "a" + times(")", 60) + ".", 0, 0);
        fault("p(" + times("f(", 60) + "a" + times(")", 61) + ".", 3, 122);
        fault("c = " + times("f(", 60) + "a" + times(")", 60) + ".", 0, 0);
        fault("c = " + times("f(", 61) + "a" + times(")", 61) + ".", 3, 126);
        fault(times("f(", 60) + "a" + times(")", 60) + " = c.", 0, 0);
        fault(times("f(", 61) + "a" + times(")", 61) + " = c.", 3, 122);
        fault("p(g(a," + times("f(", 58) + "X" + times(")", 60) + ".", 0, 0);
        fault("p(g(a," + times("f(", 59) + "X" + times(")", 61) + ".", 3, 124);
        fault("b. " + times(" ~", 60) + " a.", 0, 0);
        fault("b. " + times(" ~", 61) + " a.", 3, 126);
    }

    private static void nestedInAllWays() {
        says("nested more than 60 deep: all ways of it together");
        String mixed = times("~(", 10) + times("!X:", 10) + "(a=>" + times("~", 8) + "(" + times("?Y:(", 9);
        // 20 + 10 + 2 + 8 + 1 + 18 are 59 deep
        fault(mixed + "p(X)" + times(")", 21) + ".", 0, 0);
        fault(mixed + "~p(X)", 3, mixed.length() + 3);
        fault(mixed + "X=f(c)" + times(")", 21) + ".", 0, 0);
        fault(mixed + "X=f(g(c))" + times(")", 21) + ".", 3, mixed.length() + 6);
        fault(mixed + "f(c)=X" + times(")", 21) + ".", 0, 0);
        fault(mixed + "f(g(c))=X" + times(")", 21) + ".", 3, mixed.length() + 4);
        fault(mixed + "b=>c" + times(")", 21) + ".", 0, 0);
        fault(mixed + "b=>c=>d", 3, mixed.length() + 6);
        fault(mixed + "!Z U V:b" + times(")", 21) + ".", 0, 0);
        fault(mixed + "!Z U V:?W:b", 3, mixed.length() + 10);
        fault(mixed + "(b&(c))", 3, mixed.length() + 4);
    }

    private static void notNested() {
        says("nested: &, |, <=>, = and what is closed again are not");
        String deep = times("~", 60) + "a";
        fault("b & " + deep + ".", 0, 0);
        fault("b | " + deep + ".", 0, 0);
        fault("b <=> " + deep + ".", 0, 0);
        fault("b | c & " + deep + ".", 0, 0);
        fault(deep + " & " + deep + " | " + deep + ".", 0, 0);
        fault("b => " + deep + ".", 3, 65);
        fault("(b => c) & " + deep + ".", 0, 0);
        fault("b => c <=> " + deep + ".", 0, 0);
        fault("(" + times("~", 59) + "a) & " + deep + ".", 0, 0);
        fault("(! X : a) & " + deep + ".", 0, 0);
        fault("! X : a & " + deep + ".", 3, 70);
        fault("a. " + deep + ". " + deep + ".", 0, 0);
        fault("prove " + deep + ".", 0, 0);
        fault("c = " + times("f(", 60) + "a" + times(")", 60) + " & " + deep + "0.", 0, 0);
        fault("p(" + times("f(a),", 30) + "a).", 0, 0);
        fault(times("~a & ", 70) + "~a.", 0, 0);
        fault("! " + times("X ", 100) + ": " + times("~", 59) + "a.", 0, 0);
        fault("! " + times("X ", 100) + ": " + times("~", 60) + "a.", 3, 264);
    }

    private static void nestedAgain() {
        says("nested more than 60 deep: also behind what is closed again");
        String[] before = {"b & ", "b | ", "b <=> ", "b & c & d & ", "b | c | d | ", "b & c | d & ", "b => c <=> ", "~b & ", "~~~b | ",
            "(b) & ", "((b)) <=> ", "(b & c) | ", "(b | c) & ", "(b <=> c) & ", "(b => c => d) & ", "(! X : b) | ", "(? X Y : ~b) & ",
            "(~(b | ~c) & b) | ", "q(c0) & ", "q(f(f(c0))) | ", "f(c0) = f(f(c0)) & ", "b. ", "b & (c | d). ", "~b => c. ", "! X : ? Y : b. "};
        for (String start : before) {
            fault(start + times("~", 60) + "@", 1, start.length() + 60);
            fault(start + times("~", 61) + "@", 3, start.length() + 61);
            fault(start + times("(", 61) + "a", 3, start.length() + 61);
            fault(start + "p(" + times("f(", 60) + "c0", 3, start.length() + 122);
        }
    }

    private static void nestedComesFirst() {
        says("the place of its first WORD or sign, whatever stands there, the end, too: 3 comes before 1");
        String[] whatever = {"", ".", ")", "@", "=", "X", "b", ": a", "!", times("a", 32), "\u00ff", "prove", "\n"};
        for (String first : whatever) {
            int blank = first.equals("\n") ? 1 : 0;
            fault(times("~", 61) + first, 3, 61 + blank);
            fault(times("(", 61) + first, 3, 61 + blank);
            fault(times("!X:", 61) + " " + first, 3, 184 + blank);
            fault(times("a=>", 61) + "  " + first, 3, 185 + blank);
            fault("p(" + times("f(", 60) + first, 3, 122 + blank);
            fault("p(" + times("f(", 58) + "g(b,f(" + first, 3, 124 + blank);
        }
        fault(times("~", 60), 1, 60);
        fault(times("~", 60) + "@", 1, 60);
        fault(times("a=>", 60) + ".", 1, 180);
        fault("p(" + times("f(", 59) + ")", 1, 120);
        fault(times("~", 60) + "!:", 1, 61);
        fault(times("~", 60) + "!X:", 3, 63);
    }

    /** n NAMES: p with 24 TERMS, ten times and more. */
    private static String manyNames(int n) {
        StringBuilder text = new StringBuilder();
        for (int i = 0; i < n; i++) {
            text.append(i % 25 == 0 ? i == 0 ? "" : "). " : i % 25 == 1 ? "(" : ",").append("n").append(i);
        }
        return text.append(n % 25 == 1 ? ". " : "). ").toString();
    }

    private static void twoHundredFiftyNames() {
        says("3 a 251st NAME, where it stands");
        String names = manyNames(250);
        int end = names.length();
        fault(names, 0, 0);
        due("SYMBOLS", CountedProver.of(names).count(11), 251);
        due("the last of them", CountedProver.of(names).symbol(250, 0), 0);
        fault(manyNames(251), 3, manyNames(251).length() - "n250. ".length());
        fault(names + "m.", 3, end);
        fault(names + "~ m", 3, end + 2);
        fault(names + "n0(m", 3, end + 3);
        fault(names + "n1 = m.", 3, end + 5);
        fault(names + "m = n1.", 3, end);
        fault(names + "m(@.", 3, end);
        fault(names + "m @", 3, end);
        fault(names + "n1 = n249.", 0, 0);
        fault(names + "prove n1 = X.", 0, 0);
        fault(names + "prove.", 1, end + 5);
        fault(names + "~prove.", 3, end + 1);
        fault(names + times("~", 61) + "m.", 3, end + 61);
        // where no NAME can stand it is no NAME of the TEXT
        fault(names + "n1 = n2 m", 1, end + 8);
        fault(names + "! m", 1, end + 2);
        says("3 a 251st NAME: VARIABLES and WITNESSES are none");
        fault(names + "? X : X = Y.", 0, 0);
        due("SYMBOLS", CountedProver.of(names + "? X : X = Y.").count(11), 252);
    }

    /** n VARIABLES behind ! and ?, fifty of them for a SENTENCE. */
    private static String manyBound(int n) {
        StringBuilder text = new StringBuilder();
        for (int i = 0; i < n; i++) {
            text.append(i % 50 == 0 ? i == 0 ? "!" : i % 100 == 0 ? ": a. !" : ": a. ?" : "").append(" X");
        }
        return text.append(": a. ").toString();
    }

    private static void threeHundredVariables() {
        says("3 a 301st bound VARIABLE, where it stands");
        String bound = manyBound(300);
        String less = manyBound(299);
        int end = bound.length();
        fault(bound, 0, 0);
        fault(bound + "! X : a.", 3, end + 2);
        fault(bound + "? Y : a.", 3, end + 2);
        fault(bound + "? Y", 3, end + 2);
        fault(bound + "! @", 1, end + 2);
        fault(less + "! X : a.", 0, 0);
        fault(less + "! X X : a.", 3, less.length() + 4);
        says("3 a 301st bound VARIABLE: one without ! and ? is bound by ! around the whole FORMULA");
        fault(less + "p(Y,Y).", 0, 0);
        fault(less + "p(Y,Z).", 3, less.length() + 4);
        fault(less + "prove p(Y,Y).", 0, 0);
        fault(less + "p(Y). p(Y).", 3, less.length() + 8);
        fault(less + "! Y : p(Y,Y).", 0, 0);
        fault(less + "(! Y : p(Y)) & p(Y).", 3, less.length() + 17);
        fault(bound + "p(Y).", 3, end + 2);
        fault(bound + "Y = a.", 3, end);
        fault(bound + "Y @", 3, end);
        // where no VARIABLE can stand it is no VARIABLE of the TEXT
        fault(bound + "a Y", 1, end + 2);
    }

    private static void threeHundredWithoutSigns() {
        says("3 a 301st bound VARIABLE: three hundred without ! and ?");
        String most = times("q(A,B,C,D,E,F). ", 50);
        fault(most, 0, 0);
        fault(most + "q(A).", 3, most.length() + 2);
        fault(most + "q(a,A).", 3, most.length() + 4);
        fault(most + "prove r(A).", 3, most.length() + 8);
    }

    private static void ofEachText() {
        says("a 251st NAME, a 301st bound VARIABLE, the 201st CLAUSE: of this TEXT, whatever was read before");
        String[] most = {manyNames(250), manyBound(300), times("q(A,B,C,D,E,F). ", 50), times("a.", 200)};
        CountedProver p = new CountedProver();
        for (String text : most) {
            for (int i = 0; i < 2; i++) {
                p.feedText(text);
                fault(p, text, 0, 0);
            }
        }
        CountedProver q = new CountedProver();
        for (String text : most) {
            q.feedText(text + "! X Y : n0 @");
            q.read();
            holds("a FAULT", q.fault(0) > 0);
            q.feedText(text);
            fault(q, text, 0, 0);
        }
        q.feedText("! X : (a => ~~~~~p(X @");
        q.read();
        q.feedText(times("~", 60) + "a.");
        due("nothing is open from before", q.read(), 1);
        q.feedText("p(X) & ! Y : ? X : p(f(X)). p(X).");
        due("read", q.read(), 3);
        due("VARIABLES are its own, too", q.allShown(), "p(X0). p(f(w0(X0,X1))). p(X0).");
    }

    /** Each is of 199 WORDS and signs, weighs 100, and is one CLAUSE. */
    private static String longSentences(int n) {
        return times("p(" + times("a,", 97) + "a).", n);
    }

    private static void beyondCalls(String text, int kind, int place) {
        CountedProver p = new CountedProver().goBeyond();
        p.feedText(text);
        fault(p, text, kind, place);
    }

    /** 512 calls feed 10,240 bytes at most, half of 20,001 WORDS: these stand for it with more of them. */
    private static void twentyThousandWords() {
        says("3 the 20,001st WORD or sign (whatever it is), where it stands");
        String most = longSentences(100) + times("b.", 50);
        beyondCalls(most, 0, 0);
        beyondCalls(most + " \n % no WORD\n", 0, 0);
        String[] whatever = {".", "b", "@", "X", "=", times("a", 32), "prove", "~", "b.", "prove b."};
        for (String next : whatever) {
            beyondCalls(most + " " + next, 3, most.length() + 1);
        }
        String less = longSentences(100) + times("b.", 49) + "b";
        beyondCalls(less, 1, less.length());
        beyondCalls(less + "@", 1, less.length());
        beyondCalls(less + " b", 1, less.length() + 1);
        beyondCalls(less + ".", 0, 0);
        String twoLess = longSentences(100) + times("b.", 49);
        beyondCalls(twoLess + "bb.", 0, 0);
        beyondCalls(twoLess + "~b.", 3, twoLess.length() + 2);
        beyondCalls(twoLess + "p(", 1, twoLess.length() + 2);
        beyondCalls(twoLess + "p(a", 3, twoLess.length() + 2);
        beyondCalls(twoLess + "!X", 1, twoLess.length() + 2);
        beyondCalls(twoLess + "!X:", 3, twoLess.length() + 2);
    }

    private static void twentyThousandComeLast() {
        says("2 comes before that one's 1 or 3: the WORD or sign behind may be the 20,001st");
        String start = "f=g." + longSentences(100) + times("b.", 47) + "~";
        beyondCalls(start + "f.", 2, start.length());
        beyondCalls(start + "f=g.", 3, start.length() + 1);
        beyondCalls(start + "b=g.", 2, start.length());
        beyondCalls(start + "b|", 3, start.length() + 1);
        beyondCalls(start + "f", 2, start.length());
        beyondCalls(start + "b", 1, start.length() + 1);
    }

    private static void twentyThousandOfEachText() {
        says("3 the 20,001st WORD or sign: of this TEXT, whatever was read before");
        CountedProver p = new CountedProver().goBeyond();
        String most = longSentences(100) + times("b.", 50);
        for (int i = 0; i < 2; i++) {
            p.feedText(most);
            fault(p, most, 0, 0);
            p.feedText(most + "b.");
            fault(p, most + "b.", 3, most.length());
        }
    }

    private static String bound(String sign, int n) {
        return sign + times(" X", n) + " : ";
    }

    private static void heightTwoHundred() {
        says("3 a FORMULA higher than 200: ~, &, |, =>, <=> and each VARIABLE behind ! and ? are 1 more");
        fault(bound("!", 199) + "a.", 0, 0);
        fault(bound("!", 200) + "a.", 3, 0);
        fault(bound("?", 199) + "a.", 0, 0);
        fault(bound("?", 200) + "a.", 3, 0);
        fault(bound("!", 100) + bound("?", 99) + "a.", 0, 0);
        fault(bound("!", 100) + bound("?", 100) + "a.", 3, 0);
        fault("~" + bound("!", 198) + "a.", 0, 0);
        fault("~" + bound("!", 199) + "a.", 3, 0);
        fault(bound("!", 140) + times("~", 59) + "a.", 0, 0);
        fault(bound("!", 141) + times("~", 59) + "a.", 3, 0);
        fault(times("a & ", 199) + "a.", 0, 0);
        fault(times("a & ", 200) + "a.", 3, 0);
        fault("b & " + bound("!", 198) + "a.", 0, 0);
        fault("b & " + bound("!", 199) + "a.", 3, 0);
        fault("(" + bound("!", 198) + "a) & b.", 0, 0);
        fault("(" + bound("!", 199) + "a) & b.", 3, 0);
        fault("~ (" + times("a | ", 198) + "a).", 0, 0);
        fault("~ (" + times("a | ", 199) + "a).", 3, 0);
        fault("b | " + bound("!", 198) + "a.", 0, 0);
        fault("b | " + bound("!", 199) + "a.", 3, 0);
        fault("(" + bound("!", 198) + "a) | b.", 0, 0);
        fault("(" + bound("!", 199) + "a) | b.", 3, 0);
        fault("b => " + bound("!", 198) + "a.", 0, 0);
        fault("b => " + bound("!", 199) + "a.", 3, 0);
        fault("(" + bound("?", 198) + "a) => b.", 0, 0);
        fault("(" + bound("?", 199) + "a) => b.", 3, 0);
        fault("b <=> " + bound("!", 198) + "a.", 0, 0);
        fault("b <=> " + bound("!", 199) + "a.", 3, 0);
        fault("(" + bound("!", 198) + "a) <=> b.", 0, 0);
        fault("(" + bound("!", 199) + "a) <=> b.", 3, 0);
    }

    private static void heightOfOtherThings() {
        says("3 a FORMULA higher than 200: ATOMS, != too, are 1 high");
        fault(bound("!", 199) + "b != c.", 0, 0);
        fault(bound("!", 199) + "~ b = c.", 3, 0);
        fault(bound("!", 199) + "b = " + times("f(", 50) + "X" + times(")", 50) + ".", 0, 0);
        fault(bound("!", 199) + "p(f(X),c).", 0, 0);
        fault(times("(", 30) + bound("!", 199) + "(a)" + times(")", 30) + ".", 0, 0);
        says("3 a FORMULA higher than 200: prove and VARIABLES without ! and ? stand around the FORMULA");
        fault("prove " + bound("!", 199) + "a.", 0, 0);
        fault("prove " + bound("!", 200) + "a.", 3, 0);
        fault(bound("!", 199) + "p(Y,Z).", 0, 0);
        fault("prove " + bound("?", 199) + "p(Y,Z).", 0, 0);
        says("3 with the place where it begins");
        fault("b. " + bound("!", 200) + "a.", 3, 3);
        fault("b. \n % note\n prove " + bound("!", 200) + "a. c.", 3, 13);
    }

    private static void twoHundredClauses() {
        says("3 the 201st CLAUSE of all (TAUTOLOGIES count)");
        fault(times("a.", 200), 0, 0);
        fault(times("a.", 201), 3, 400);
        fault(times("a|~a.", 200), 0, 0);
        fault(times("a|~a.", 201), 3, 1000);
        fault(times("b=b.", 200) + "c.", 3, 800);
        due("how many CLAUSES it has", CountedProver.fed(times("b=b.", 150) + times("c.", 50)).read(), 50);
        due("200 of them", CountedProver.fed(times("c.", 200)).read(), 200);
        String twenty = "(" + times("a & ", 19) + "a)";
        fault(twenty + " | (" + times("b & ", 9) + "b).", 0, 0);
        due("20 times 10", CountedProver.fed(twenty + " | (" + times("b & ", 9) + "b).").read(), 200);
        fault("(" + times("a & ", 66) + "a) | (b & b & b).", 3, 0);
        fault("c. " + twenty + " | (" + times("b & ", 9) + "b).", 3, 3);
        fault("(" + times("a & ", 65) + "a) | (b & b & b). c. c.", 0, 0);
        fault("(" + times("a & ", 65) + "a) | (b & b & b). c. c. c.", 3, 285);
        fault("prove ~((" + times("a & ", 66) + "a) | (b & b & b)).", 3, 0);
        fault("prove (" + times("a | ", 66) + "a) & (b | b | b).", 3, 0);
        fault(times("a <=> b. ", 100), 0, 0);
        fault(times("a <=> b. ", 100) + "a.", 3, 900);
        fault(times("~(a <=> b). ", 100), 0, 0);
        fault(times("a & b. ", 100) + "c & d.", 3, 700);
        fault(times("a. ", 199) + "b & c.", 3, 597);
    }

    private static void tooManyToCount() {
        says("3 the 201st CLAUSE of all: also if they are more than 32 bits can count");
        fault(times("(", 50) + "a <=> b" + times(") <=> c", 50) + ".", 3, 0);
        fault(times("(a & b) | ", 60) + "c.", 3, 0);
        fault(times("(a | b) & ", 190) + "c.", 0, 0);
        fault("~(" + times("(a | b) & ", 64) + "c).", 3, 0);
        fault(times("(", 30) + "a & a" + times(") | (b & b)", 30) + ".", 3, 0);
        // 65,536 times 65,536 is 0 in 32 bits
        String sixteen = times("(a & b) | ", 15) + "(a & b)";
        fault("(" + sixteen + ") | (" + sixteen + ").", 3, 0);
        fault("(" + sixteen + " | a & b) | (" + sixteen + ").", 3, 0);
    }

    private static void eightLiterals() {
        says("3 a CLAUSE beyond the BOUNDS: 8 LITERALS");
        fault("a|b|c|d|e|f|g|h.", 0, 0);
        fault("a|b|c|d|e|f|g|h|i.", 3, 0);
        fault("prove a&b&c&d&e&f&g&h.", 0, 0);
        fault("prove a&b&c&d&e&f&g&h&i.", 3, 0);
        fault("a & b & c & d & e & f & g => h.", 0, 0);
        fault("a & b & c & d & e & f & g & h => i.", 3, 0);
        fault("(a | b | c | d) | (e | f | g | h) & i.", 0, 0);
        fault("(a | b | c | d | e) | (e | f | g | h) & i.", 3, 0);
        due("LITERALS", CountedProver.of("a|b|c|d|e|f|g|h.").clause(0, 3), 8);
    }

    private static void weightOneHundred() {
        says("3 a CLAUSE beyond the BOUNDS: WEIGHT 100 of all sides");
        fault("p(" + times("a,", 97) + "a).", 0, 0);
        fault("p(" + times("a,", 98) + "a).", 3, 0);
        fault("p(" + times("a,", 98) + "a) | b | ~b.", 3, 0);
        due("WEIGHT", CountedProver.of("p(" + times("a,", 97) + "a).").clause(0, 4), 100);
        fault("b = f(" + times("a,", 97) + "X).", 0, 0);
        fault("b = f(" + times("a,", 98) + "X).", 3, 0);
        // 48 and 1, and 49 and 2 of q
        String half = "p(" + times("a,", 46) + "a)";
        fault(half + " | q(" + times("a,", 48) + "a).", 0, 0);
        fault(half + " | q(" + times("a,", 49) + "a).", 3, 0);
        fault(half + " & q(" + times("a,", 49) + "a).", 0, 0);
        says("3 a CLAUSE beyond the BOUNDS: WEIGHT 100, its WITNESSES counted");
        // w0, w1(w0), .. weigh 1, 2, 4, 8, 16, 32; p and TRUE 2
        fault("? A B C D E F : p(A,B,C,D,E,F).", 0, 0);
        due("WEIGHT", CountedProver.of("? A B C D E F : p(A,B,C,D,E,F).").clause(0, 4), 65);
        fault("? A B C D E F G : p(G).", 0, 0);
        fault("? A B C D E F G : p(G,F).", 0, 0);
        due("WEIGHT", CountedProver.of("? A B C D E F G : p(G,F,B).").clause(0, 4), 100);
        fault("? A B C D E F G : p(G,F,B).", 0, 0);
        fault("? A B C D E F G : p(G,F,B,A).", 3, 0);
        fault("? A B C D E F G H : p(H).", 3, 0);
        fault("? " + times("A ", 199) + ": p(A).", 3, 0);
        fault("p & ? " + times("A ", 190) + ": ? B : q(c).", 0, 0);
    }

    private static void sixVariables() {
        says("3 a CLAUSE beyond the BOUNDS: 6 VARIABLES");
        fault("p(X,Y,Z,U,V,W).", 0, 0);
        due("VARIABLES", CountedProver.of("p(X,Y,Z,U,V,W).").clause(0, 5), 6);
        due("X0 .. X5", CountedProver.of("p(X,Y,Z,U,V,W).").allShown(), "p(X0,X1,X2,X3,X4,X5).");
        fault("p(X,Y,Z,U,V,W,A).", 3, 0);
        fault("p(X,Y,Z) | q(X,U) | V = W.", 0, 0);
        fault("p(X,Y,Z) | q(A,U) | V = W.", 3, 0);
        fault("p(X,Y,Z) & q(A,U) & V = W.", 0, 0);
        fault("! A B C D E F G H : p(A,B,C,D,E,F).", 0, 0);
        fault("! A B C D E F G : p(A,B,C,D,E,F) | q(G).", 3, 0);
        fault("! A B C D E F : ? G : p(G).", 0, 0);
        fault("! A B C D E F H : ? G : p(G).", 3, 0);
        fault("prove ? A B C D E F G : p(A,B,C,D,E,F) | q(G).", 0, 0);
        fault("prove ? A B C D E F G : p(A,B,C,D,E,F) & q(G).", 3, 0);
    }

    private static void beforeReduced() {
        says("BOUNDS of a CLAUSE, before it is REDUCED");
        fault(times("a | ", 7) + "a.", 0, 0);
        fault(times("a | ", 8) + "a.", 3, 0);
        fault(times("a != a | ", 7) + "b.", 0, 0);
        fault(times("a != a | ", 8) + "b.", 3, 0);
        fault(times("a | ", 8) + "~a.", 3, 0);
        fault("X != X | Y != Y | Z != Z | U != U | V != V | W != W.", 0, 0);
        fault("X != X | Y != Y | Z != Z | U != U | V != V | W != W | A != A.", 3, 0);
        String half = "f(" + times("a,", 23) + "a)";
        fault(half + " != " + half + " | " + half + " = " + half + ".", 0, 0);
        fault(half + " != " + half + " | " + half + " = g(" + half + ").", 3, 0);
        due("a TAUTOLOGY within them", CountedProver.fed(half + " != " + half + " | " + half + " = " + half + ".").read(), 0);
        due("the empty CLAUSE", CountedProver.of(half + " != " + half + ".").allShown(), "false.");
    }

    private static void bySentences() {
        says("Then, by SENTENCES");
        String high = bound("!", 200) + "b. ";
        String wide = "p(" + times("a,", 98) + "a). ";
        String many = times("b. ", 200);
        fault(high + "b @", 1, high.length() + 2);
        fault(wide + "c = b. b.", 2, wide.length() + 7);
        fault(many + "b. " + times("~", 61), 3, 603 + 61);
        fault("b. " + wide + high, 3, 3);
        fault("b. b. " + high + wide, 3, 6);
        fault(many + wide, 3, 600);
        fault(wide + times("b. ", 201), 3, 0);
        fault("c. " + wide + many, 3, 3);
        fault(many + "b. " + wide, 3, 600);
        due("nothing of it stays", CountedProver.of("c. " + wide).counts(), "0 0 0 0 0 0 0 0 0 0 0 1 0 0");
    }

    private static void mostSymbols() {
        says("SYMBOLS: 0 TRUE; the NAMES from 1 on as they come first; then the WITNESSES");
        String names = manyNames(250);
        String text = names + "? " + times("X ", 150) + ": n1 = n1. ? " + times("X ", 149) + ": n1 = n1. ? X : n1 = X.";
        CountedProver p = CountedProver.of(text);
        due("no FAULT", p.fault(0), 0);
        due("as many as there can be", p.count(11), 551);
        due("the last one is a WITNESS", p.symbol(550, 2), 1);
        due("the last one has no TERMS", p.symbol(550, 0), 0);
        due("the last but one has 148", p.symbol(549, 0), 148);
        due("the last NAME is none", p.symbol(250, 2), 0);
        dueThrow("symbol(551, 0)", () -> p.symbol(551, 0), ELEMENT);
        due("w299", p.shown(p.count(0) - 1), "n1 = w299");
    }
}
