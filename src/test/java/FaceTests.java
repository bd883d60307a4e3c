import java.lang.management.ManagementFactory;
import java.lang.reflect.Field;
import java.lang.reflect.InvocationTargetException;
import java.lang.reflect.Method;
import java.lang.reflect.Modifier;
import java.util.ArrayList;
import java.util.Arrays;
import java.util.List;
import java.util.Random;

/**
 * What stands around the promises: 'What it is', 'The public face' and 'Not promised'. The face is looked at
 * as it was compiled; then calls by chance, with arguments of all kinds, may answer or throw what they name,
 * and no object may know of another one.
 */
public final class FaceTests extends Checks {
    private static final String[] FACE = {
        "int feed(int,int,int,int,int) throws IllegalStateException",
        "int end(int) throws IllegalArgumentException",
        "int read()",
        "int fault(int)",
        "int run(int) throws IllegalArgumentException",
        "int clause(int,int) throws NoSuchElementException,IllegalArgumentException",
        "int rewrote(int,int) throws NoSuchElementException",
        "int literal(int,int,int) throws NoSuchElementException,IllegalArgumentException",
        "int show(int) throws NoSuchElementException",
        "int out(int) throws IndexOutOfBoundsException",
        "int symbol(int,int) throws NoSuchElementException,IllegalArgumentException",
        "int proof()",
        "int step(int) throws IndexOutOfBoundsException",
        "int look(int,int) throws IllegalArgumentException",
        "int search(int,int,int) throws IllegalArgumentException",
        "int count(int)",
    };
    /** Some of them feed a whole TEXT, which takes several calls, so that 512 are not reached. */
    private static final int CALLS = 300;
    private static final String[] TEXTS = {
        "man(socrates). man(X) => mortal(X). prove mortal(socrates).",
        "m(e,X) = X. m(i(X),X) = e. m(m(X,Y),Z) = m(X,m(Y,Z)). prove m(X,i(X)) = e.",
        "h(h(h(s,X),Y),Z) = h(h(X,Z),h(Y,Z)). h(h(k,X),Y) = X. prove ? X : ! Y : h(X,Y) = h(Y,h(X,Y)).",
        "a <=> ~(b <=> ? X : p(X)). prove ! X : p(X) => p(f(X)). X = Y | p(Y).",
        "f(X) = X | g(X,Y) != Y. c != c. % a note",
        "a | b @", "p(a). a.", "", "(~! X : ",
    };

    private FaceTests() {
    }

    public static void main(String[] args) throws ReflectiveOperationException {
        theClass();
        theConstructor();
        theMethods();
        nothingElseIsSeen();
        onlyWhatIsNamed();
        noOtherObjectMatters();
        madeForFiveHundredTwelveCalls();
        exampleOfTheReadme();
        finish();
    }

    private static void theClass() {
        says("public final class ClauseProver");
        holds("public", Modifier.isPublic(ClauseProver.class.getModifiers()));
        holds("final", Modifier.isFinal(ClauseProver.class.getModifiers()));
        due("without a package", ClauseProver.class.getName(), "ClauseProver");
        due("of nothing else", ClauseProver.class.getSuperclass().getName(), "java.lang.Object");
        due("of no interface", ClauseProver.class.getInterfaces().length, 0);
    }

    private static void theConstructor() {
        says("public ClauseProver()");
        due("one alone", ClauseProver.class.getDeclaredConstructors().length, 1);
        holds("public", Modifier.isPublic(ClauseProver.class.getDeclaredConstructors()[0].getModifiers()));
        due("without parameters", ClauseProver.class.getDeclaredConstructors()[0].getParameterCount(), 0);
        due("that throws nothing", ClauseProver.class.getDeclaredConstructors()[0].getExceptionTypes().length, 0);
    }

    private static String namesOf(Class<?>[] types) {
        StringBuilder text = new StringBuilder();
        for (Class<?> type : types) {
            text.append(text.length() > 0 ? "," : "").append(type.getSimpleName());
        }
        return text.toString();
    }

    private static String faceOf(Method m) {
        String exceptions = namesOf(m.getExceptionTypes());
        return namesOf(new Class<?>[] {m.getReturnType()}) + " " + m.getName() + "(" + namesOf(m.getParameterTypes()) + ")"
            + (exceptions.isEmpty() ? "" : " throws " + exceptions);
    }

    /** The methods that can be seen from outside the class. */
    private static List<Method> seenMethods() {
        List<Method> all = new ArrayList<>();
        for (Method m : ClauseProver.class.getDeclaredMethods()) {
            if (!Modifier.isPrivate(m.getModifiers()) && !m.isSynthetic()) {
                all.add(m);
            }
        }
        return all;
    }

    private static void theMethods() {
        says("The public face: each method, its parameters and the exceptions that it names");
        List<String> seen = new ArrayList<>();
        for (Method m : seenMethods()) {
            seen.add(faceOf(m));
            holds(m.getName() + " is public", Modifier.isPublic(m.getModifiers()));
            holds(m.getName() + " is of an object", !Modifier.isStatic(m.getModifiers()));
        }
        for (String due : FACE) {
            holds(due, seen.contains(due));
        }
        due("no other", seen.size(), FACE.length);
    }

    private static void nothingElseIsSeen() {
        says("The public face: no other member");
        for (Field f : ClauseProver.class.getDeclaredFields()) {
            holds(f.getName() + " is private", Modifier.isPrivate(f.getModifiers()) || f.isSynthetic());
            holds(f.getName() + " is final if it is static", !Modifier.isStatic(f.getModifiers()) || Modifier.isFinal(f.getModifiers()));
        }
        for (Class<?> inside : ClauseProver.class.getDeclaredClasses()) {
            holds(inside.getSimpleName() + " is static", Modifier.isStatic(inside.getModifiers()));
            holds(inside.getSimpleName() + " is not public", !Modifier.isPublic(inside.getModifiers()));
        }
    }

    /** Small numbers most of the time, so that many calls are not refused, and all others, too. */
    private static int argument(Random chance) {
        int[] edges = {Integer.MIN_VALUE, Integer.MAX_VALUE, -1, 0, 50, 51, 100, 101, 2000, 65536};
        int kind = chance.nextInt(20);
        return kind == 0 ? chance.nextInt() : kind < 3 ? edges[chance.nextInt(edges.length)]
            : kind < 14 ? chance.nextInt(5) : chance.nextInt(60);
    }

    /** What a call answers, or the name of what it throws, which must be one of those that it names. */
    private static String answerOf(CountedProver p, Method m, Object[] arguments) throws IllegalAccessException {
        try {
            return String.valueOf(p.call(m, arguments));
        } catch (InvocationTargetException e) {
            Throwable thrown = e.getCause();
            holds(m.getName() + Arrays.toString(arguments) + " throws " + thrown,
                Arrays.asList(m.getExceptionTypes()).contains(thrown.getClass()));
            return thrown.getClass().getSimpleName();
        }
    }

    /** One call by chance, or a whole TEXT: at first, and now and then. */
    private static String oneCall(CountedProver p, Random chance, int number) throws IllegalAccessException {
        if (number == 0 || chance.nextInt(60) == 0) {
            p.end(0);
            p.feedText(TEXTS[chance.nextInt(TEXTS.length)]);
            return String.valueOf(p.read());
        }
        List<Method> methods = seenMethods();
        methods.sort((one, two) -> one.getName().compareTo(two.getName()));
        Method m = methods.get(chance.nextInt(methods.size()));
        Object[] arguments = new Object[m.getParameterCount()];
        for (int i = 0; i < arguments.length; i++) {
            arguments[i] = argument(chance);
        }
        return answerOf(p, m, arguments);
    }

    /** What a row of calls by chance answers. */
    private static String calls(int seed) throws IllegalAccessException {
        CountedProver p = new CountedProver();
        Random chance = new Random(seed);
        StringBuilder answers = new StringBuilder();
        for (int i = 0; i < CALLS; i++) {
            answers.append(oneCall(p, chance, i)).append(' ');
        }
        return answers.toString();
    }

    private static void onlyWhatIsNamed() throws IllegalAccessException {
        says("each method throws the exceptions that it names, and no other, for any arguments in any state");
        for (int seed = 0; seed < 400; seed++) {
            calls(seed);
        }
    }

    private static void noOtherObjectMatters() throws IllegalAccessException {
        says("the same calls give the same answers, whatever other objects did before or do between them");
        for (int seed = 0; seed < 60; seed++) {
            String alone = calls(seed);
            CountedProver[] both = {new CountedProver(), new CountedProver()};
            Random[] chance = {new Random(seed), new Random(seed + 1000)};
            StringBuilder answers = new StringBuilder();
            for (int i = 0; i < CALLS; i++) {
                answers.append(oneCall(both[0], chance[0], i)).append(' ');
                oneCall(both[1], chance[1], i);
            }
            due("calls between those of another object", answers.toString(), alone);
        }
    }

    private static long allocated() {
        com.sun.management.ThreadMXBean threads = (com.sun.management.ThreadMXBean) ManagementFactory.getThreadMXBean();
        return threads.getThreadAllocatedBytes(Thread.currentThread().getId());
    }

    /**
     * All that 512 calls make has to find room in 600,000 objects and 7.3 million fields and elements. An object
     * takes at least 16 bytes and an element of the program's rows 4, so bytes below 16 times 600,000 prove both.
     */
    private static void madeForFiveHundredTwelveCalls() {
        says("An object is used for at most 512 calls after it has been made");
        for (String text : TEXTS) {
            long before = allocated();
            CountedProver p = CountedProver.of(text);
            while (p.left() > 0) {
                p.run(100);
            }
            hasRoom("run(100) of " + text, before);
        }
        long before = allocated();
        CountedProver full = new CountedProver();
        for (int round = 0; round < 8; round++) {
            full.feedText(TEXTS[2]);
            full.read();
            due("FULL", full.runToTheEnd(), 3);
        }
        hasRoom("one FULL TEXT after another", before);
        refusedTillTheEnd();
        longTexts();
    }

    private static void hasRoom(String what, long before) {
        holds("room for " + what, allocated() - before < 16L * 600000);
    }

    private static void refusedTillTheEnd() {
        long before = allocated();
        CountedProver p = new CountedProver();
        while (p.left() > 0) {
            dueThrow("clause(0, 0)", () -> p.clause(0, 0), ELEMENT);
        }
        hasRoom("calls that are refused", before);
    }

    private static void longTexts() {
        String text = times("q(A,B,C,D,E,F) & (a | b) & (a | b) & c. ", 50);
        long before = allocated();
        CountedProver p = new CountedProver();
        while (p.left() > text.length() / 20 + 4) {
            p.feedText(text);
            due("CLAUSES", p.read(), 200);
        }
        hasRoom("long TEXTS", before);
    }

    private static void exampleOfTheReadme() {
        says("README.md: how to use the class");
        CountedProver p = new CountedProver();
        p.feed(0x70286129, 0x2e207072, 0x6f766520, 0x70285829, 0x203d3e20);
        p.feed(0x70286129, 0x2e202020, 0, 0, 0);
        p.end(28);
        due("read", p.read(), 3);
        due("run", p.run(100), 1);
        StringBuilder lines = new StringBuilder();
        for (int i = 0; i < p.proof(); i++) {
            lines.append(p.shown(p.step(i))).append(". ");
        }
        due("the PROOF", lines.toString(), "p(a). ~p(a). false. ");
    }
}
