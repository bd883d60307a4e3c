import java.lang.reflect.Field;
import java.lang.reflect.Modifier;
import java.util.ArrayList;
import java.util.List;

/**
 * What was read and run before leaves nothing behind: an object that has done much answers as a new one does.
 * ../shared/tests/ManyTexts.java has a run of billions of unifications; here the same is looked at from inside,
 * as nothing that goes on counting through an object's life can be seen from outside by a short test.
 */
public final class LifeTests extends Checks {
    private static final String[] TEXTS = {
        "p(X,X). ~p(a,b).",
        "p(X,Y,X,Y) | p(Y,X,a,b). ~p(f(X),X,f(Y),Z).",
        "e(f(X,Y),f(Y,X)). ~e(f(f(A,B),C),f(C,f(B,A))). e(X,X) | f(X,X) = a.",
        "m(e,X) = X. m(i(X),X) = e. m(m(X,Y),Z) = m(X,m(Y,Z)). prove m(X,i(X)) = e.",
        "f(f(X)) = X. f(a) = b | a = b. p(f(b)) | p(X). prove ? X : p(X) & p(f(X)).",
        "g(X) = h(X,X) | X = Y | g(Y) != X. h(X,Y) = h(Y,X). ~q(g(h(a,b))). q(X) | q(g(X)).",
        "a <=> ~(b <=> ? X : p(X)). prove ! X : p(X) => p(f(X)). X = Y | p(Y).",
        "a | b @", "",
    };
    private static final int STEPS = 40;

    private LifeTests() {
    }

    public static void main(String[] args) throws IllegalAccessException {
        whateverWasReadBefore();
        allTextsOneAfterAnother();
        nothingGoesOnCounting();
        finish();
    }

    /** Reads, runs and looks: every part of the class has something to do. */
    private static String lifeOf(CountedProver p, String text) {
        p.feedText(text);
        StringBuilder answers = new StringBuilder();
        answers.append(p.read()).append(' ').append(p.fault(0)).append(' ').append(p.fault(1));
        answers.append(' ').append(p.run(STEPS)).append(' ').append(p.search(7, 2, 20)).append(' ').append(p.look(7, 3));
        int clauses = p.count(0);
        answers.append(' ').append(clauses > 0 ? p.show(clauses - 1) : 0).append(" [");
        for (int what = 0; what < 12; what++) {
            answers.append(p.count(what)).append(' ');
        }
        return answers.append("] ").append(p.proof()).toString();
    }

    private static void whateverWasReadBefore() {
        says("read: All that was before is gone (OUT stays)");
        for (String before : TEXTS) {
            for (String text : TEXTS) {
                CountedProver used = new CountedProver();
                lifeOf(used, before);
                String name = text + " behind " + before;
                due(name, lifeOf(used, text), lifeOf(new CountedProver(), text));
                due("the CLAUSES of " + name, lastFacts(used), lastFacts(onlyWith(text)));
            }
        }
    }

    private static CountedProver onlyWith(String text) {
        CountedProver p = new CountedProver();
        lifeOf(p, text);
        return p;
    }

    /** What is told of the last CLAUSES: they are made by all that was done before. */
    private static String lastFacts(CountedProver p) {
        StringBuilder text = new StringBuilder();
        int clauses = p.count(0);
        for (int k = Math.max(0, clauses - 8); k < clauses; k++) {
            text.append(p.facts(k)).append('/').append(p.literals(k)).append(' ');
        }
        return text.toString();
    }

    private static void allTextsOneAfterAnother() {
        says("An object is used for at most 512 calls after it has been made");
        CountedProver used = new CountedProver();
        for (int i = 0; used.left() > 60; i++) {
            String text = TEXTS[i % TEXTS.length];
            due(text + " as the TEXT " + i, lifeOf(used, text), lifeOf(new CountedProver(), text));
        }
    }

    /**
     * A count that no read sets back comes round, once it has gone through all numbers, to one that stands
     * for something else: a unification took what an earlier one had met for its own.
     */
    private static void nothingGoesOnCounting() throws IllegalAccessException {
        says("inside the object: no number but what was done since the last read");
        String text = TEXTS[5];
        CountedProver once = onlyWith(text);
        for (String before : TEXTS) {
            CountedProver used = onlyWith(before);
            lifeOf(used, before);
            lifeOf(used, text);
            due("the numbers inside behind " + before, numbersOf(used), numbersOf(once));
        }
    }

    private static String numbersOf(CountedProver p) throws IllegalAccessException {
        StringBuilder text = new StringBuilder();
        addNumbers(p.bare(), new ArrayList<>(), text);
        return text.toString();
    }

    /** All numbers but those in rows: of these only the size counts, as what lies beyond is room to be used again. */
    private static void addNumbers(Object part, List<Object> seen, StringBuilder text) throws IllegalAccessException {
        if (seen.contains(part)) {
            return;
        }
        seen.add(part);
        for (Field f : part.getClass().getDeclaredFields()) {
            if (Modifier.isStatic(f.getModifiers())) {
                continue;
            }
            f.setAccessible(true);
            Object value = f.get(part);
            if (f.getType().isPrimitive()) {
                text.append(part.getClass().getSimpleName()).append('.').append(f.getName()).append('=').append(value).append(' ');
            } else if (value != null && !f.getType().isArray()) {
                addNumbers(value, seen, text);
            }
        }
    }
}
