import java.io.IOException;
import java.nio.charset.StandardCharsets;
import java.nio.file.DirectoryStream;
import java.nio.file.Files;
import java.nio.file.Path;
import java.util.ArrayList;
import java.util.Collections;
import java.util.List;

/**
 * Replays written runs, *.txt in the folder that is named, against new objects. A line is a call, or
 * a group of calls that belong together, and behind " = " what is due. The answers come from a
 * second prover, written another way by the same reader of the document: it shows slips of the
 * program, but not a passage that was read wrongly for both.
 *
 * <p>An object is asked no more than 512 times: a longer run goes on with a new one, for which the
 * lines that change something are done again.
 */
public final class ReplayRuns extends Checks {
    private static final List<String> changes = new ArrayList<>();
    private static CountedProver prover = new CountedProver();

    private ReplayRuns() {
    }

    public static void main(String[] args) throws IOException {
        List<Path> files = new ArrayList<>();
        for (String arg : args) {
            Path path = Path.of(arg);
            if (!Files.isDirectory(path)) {
                files.add(path);
                continue;
            }
            try (DirectoryStream<Path> stream = Files.newDirectoryStream(path, "*.txt")) {
                for (Path file : stream) {
                    files.add(file);
                }
            }
        }
        Collections.sort(files);
        for (Path file : files) {
            replay(file);
        }
        finish();
    }

    private static void replay(Path file) throws IOException {
        int number = 0;
        for (String line : Files.readAllLines(file, StandardCharsets.ISO_8859_1)) {
            number++;
            says(file + ":" + number);
            if (line.equals("new")) {
                changes.clear();
                prover = new CountedProver();
            } else if (!line.isEmpty() && !line.startsWith("#")) {
                replayLine(line);
            }
        }
    }

    private static void replayLine(String line) {
        int cut = line.indexOf(" = ");
        boolean changing = line.startsWith("text ") || line.startsWith("read ") || line.startsWith("run ");
        // more than a line can need: a call feeds 20 bytes, and else tells a sign of the line or one of a few others
        int calls = line.startsWith("text ") ? line.length() / 20 + 10 : line.length() + 40;
        if (prover.left() < calls) {
            prover = new CountedProver();
            for (String change : changes) {
                change(change);
            }
        }
        if (line.startsWith("text ")) {
            change(line);
        } else {
            due(line.substring(0, cut), answer(line.substring(0, cut)), line.substring(cut + 3));
        }
        if (changing) {
            changes.add(line);
        } else if (line.startsWith("clauses ")) {
            // OUT is what was shown last
            changes.removeIf(change -> change.startsWith("clauses "));
            changes.add(line);
        }
    }

    /** Does a line again without a look at its answer. */
    private static void change(String line) {
        if (line.startsWith("text ")) {
            prover.end(0);
            prover.feedText(unescape(line.substring(5)));
        } else if (line.startsWith("clauses ")) {
            prover.show(Integer.parseInt(line.split(" ")[1]));
        } else {
            answer(line.substring(0, line.indexOf(" = ")));
        }
    }

    private static String unescape(String text) {
        StringBuilder plain = new StringBuilder();
        for (int i = 0; i < text.length(); i++) {
            char c = text.charAt(i);
            if (c == '\\') {
                plain.append((char) Integer.parseInt(text.substring(i + 1, i + 3), 16));
                i += 2;
            } else {
                plain.append(c);
            }
        }
        return plain.toString();
    }

    private static String answer(String call) {
        String[] words = call.split(" ");
        int[] a = new int[words.length - 1];
        for (int i = 0; i < a.length; i++) {
            a[i] = Integer.parseInt(words[i + 1]);
        }
        try {
            return words[0].endsWith("s") ? group(words[0], a) : String.valueOf(single(prover, words[0], a));
        } catch (RuntimeException e) {
            return e.getClass().getSimpleName();
        }
    }

    private static int single(CountedProver p, String name, int[] a) {
        switch (name) {
            case "feed": return p.feed(a[0], a[1], a[2], a[3], a[4]);
            case "end": return p.end(a[0]);
            case "read": return p.read();
            case "fault": return p.fault(a[0]);
            case "run": return p.run(a[0]);
            case "clause": return p.clause(a[0], a[1]);
            case "rewrote": return p.rewrote(a[0], a[1]);
            case "literal": return p.literal(a[0], a[1], a[2]);
            case "show": return p.show(a[0]);
            case "out": return p.out(a[0]);
            case "symbol": return p.symbol(a[0], a[1]);
            case "proof": return p.proof();
            case "step": return p.step(a[0]);
            case "look": return p.look(a[0], a[1]);
            case "search": return p.search(a[0], a[1], a[2]);
            case "count": return p.count(a[0]);
            default: throw new IllegalArgumentException(name);
        }
    }

    /** Calls that belong together, their answers with blanks between. */
    private static String group(String name, int[] a) {
        switch (name) {
            case "faults": return prover.fault(0) + " " + prover.fault(1);
            case "counts": return prover.counts();
            case "clauses": return described(a[0]);
            case "symbols": return prover.symbols();
            case "proofs": return steps();
            default: throw new IllegalArgumentException(name);
        }
    }

    private static String steps() {
        StringBuilder answers = new StringBuilder();
        int length = prover.proof();
        for (int i = 0; i < length; i++) {
            answers.append(i > 0 ? " " : "").append(prover.step(i));
        }
        return answers.toString();
    }

    private static String described(int k) {
        StringBuilder answers = new StringBuilder();
        answers.append(prover.facts(k)).append(" [");
        int rewriters = prover.clause(k, 7);
        for (int i = 0; i < rewriters; i++) {
            answers.append(prover.rewrote(k, i)).append(' ');
        }
        answers.append("] ");
        int literals = prover.clause(k, 3);
        for (int i = 0; i < literals; i++) {
            for (int what = 0; what < 4; what++) {
                answers.append(prover.literal(k, i, what)).append(what < 3 ? "," : " ");
            }
        }
        return answers.append(prover.shown(k)).toString();
    }
}
