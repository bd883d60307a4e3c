import java.io.IOException;
import java.nio.charset.StandardCharsets;
import java.nio.file.DirectoryStream;
import java.nio.file.Files;
import java.nio.file.Path;
import java.util.ArrayList;
import java.util.Collections;
import java.util.List;
import java.util.NoSuchElementException;

/**
 * Replays written runs, *.txt in the folder that is named, against new objects. A line is a call, or
 * a group of calls that belong together, and behind " = " what is due. The answers come from a
 * second prover, written another way by the same reader of the document: it shows slips of the
 * program, but not a passage that was read wrongly for both.
 */
public final class ReplayRuns {
    private static int wrong = 0;
    private static int checked = 0;

    private ReplayRuns() {
    }

    public static void main(String[] args) throws IOException {
        List<Path> files = new ArrayList<>();
        for (String arg : args) {
            Path path = Path.of(arg);
            if (!Files.isDirectory(path)) {
                files.add(path);
                continue;
            }
            try (DirectoryStream<Path> stream = Files.newDirectoryStream(path, "*.txt")) {
                for (Path file : stream) {
                    files.add(file);
                }
            }
        }
        Collections.sort(files);
        for (Path file : files) {
            replay(file);
        }
        if (checked == 0) {
            System.out.println("no run was found");
            wrong++;
        }
        System.out.println(checked + " answers were looked at, " + wrong + " are wrong");
        System.exit(wrong == 0 ? 0 : 1);
    }

    private static void replay(Path file) throws IOException {
        ClauseProver prover = new ClauseProver();
        int number = 0;
        for (String line : Files.readAllLines(file, StandardCharsets.ISO_8859_1)) {
            number++;
            if (line.isEmpty() || line.startsWith("#")) {
                continue;
            }
            if (line.equals("new")) {
                prover = new ClauseProver();
                continue;
            }
            if (line.startsWith("text ")) {
                feedText(prover, unescape(line.substring(5)));
                continue;
            }
            int cut = line.indexOf(" = ");
            String call = line.substring(0, cut);
            String due = line.substring(cut + 3);
            String got = answer(prover, call);
            checked++;
            if (!got.equals(due)) {
                wrong++;
                System.out.println(file + ":" + number + ": " + call + " answered " + got + ", due is " + due);
            }
        }
    }

    private static String unescape(String text) {
        StringBuilder plain = new StringBuilder();
        for (int i = 0; i < text.length(); i++) {
            char c = text.charAt(i);
            if (c == '\\') {
                plain.append((char) Integer.parseInt(text.substring(i + 1, i + 3), 16));
                i += 2;
            } else {
                plain.append(c);
            }
        }
        return plain.toString();
    }

    static void feedText(ClauseProver prover, String text) {
        int[] numbers = new int[5];
        for (int i = 0; i < text.length(); i += 20) {
            for (int j = 0; j < 5; j++) {
                numbers[j] = 0;
                for (int k = i + 4 * j; k < i + 4 * j + 4; k++) {
                    numbers[j] = numbers[j] << 8 | (k < text.length() ? text.charAt(k) : 0);
                }
            }
            prover.feed(numbers[0], numbers[1], numbers[2], numbers[3], numbers[4]);
        }
        prover.end(text.length());
    }

    private static String answer(ClauseProver p, String call) {
        String[] words = call.split(" ");
        int[] a = new int[words.length - 1];
        for (int i = 0; i < a.length; i++) {
            a[i] = Integer.parseInt(words[i + 1]);
        }
        try {
            return words[0].endsWith("s") ? group(p, words[0], a) : String.valueOf(single(p, words[0], a));
        } catch (IllegalStateException e) {
            return "IllegalStateException";
        } catch (NoSuchElementException e) {
            return "NoSuchElementException";
        } catch (IllegalArgumentException e) {
            return "IllegalArgumentException";
        } catch (ArrayIndexOutOfBoundsException e) {
            return e.toString();
        } catch (IndexOutOfBoundsException e) {
            return "IndexOutOfBoundsException";
        } catch (RuntimeException | StackOverflowError e) {
            return e.toString();
        }
    }

    private static int single(ClauseProver p, String name, int[] a) {
        switch (name) {
            case "feed": return p.feed(a[0], a[1], a[2], a[3], a[4]);
            case "end": return p.end(a[0]);
            case "read": return p.read();
            case "fault": return p.fault(a[0]);
            case "run": return p.run(a[0]);
            case "clause": return p.clause(a[0], a[1]);
            case "rewrote": return p.rewrote(a[0], a[1]);
            case "literal": return p.literal(a[0], a[1], a[2]);
            case "show": return p.show(a[0]);
            case "out": return p.out(a[0]);
            case "symbol": return p.symbol(a[0], a[1]);
            case "proof": return p.proof();
            case "step": return p.step(a[0]);
            case "look": return p.look(a[0], a[1]);
            case "search": return p.search(a[0], a[1], a[2]);
            case "count": return p.count(a[0]);
            default: throw new IllegalArgumentException(name);
        }
    }

    /** Calls that belong together, their answers with blanks between. */
    private static String group(ClauseProver p, String name, int[] a) {
        StringBuilder answers = new StringBuilder();
        switch (name) {
            case "faults":
                answers.append(p.fault(0)).append(' ').append(p.fault(1));
                break;
            case "counts":
                for (int what = 0; what < 14; what++) {
                    answers.append(what == 0 ? "" : " ").append(p.count(what));
                }
                break;
            case "clauses":
                describe(p, a[0], answers);
                break;
            case "symbols":
                for (int k = 0; k < p.count(11); k++) {
                    answers.append(p.symbol(k, 0)).append(p.symbol(k, 1)).append(p.symbol(k, 2)).append(' ');
                }
                break;
            case "proofs":
                for (int i = 0; i < p.proof(); i++) {
                    answers.append(p.step(i)).append(' ');
                }
                break;
            default:
                throw new IllegalArgumentException(name);
        }
        return answers.toString().trim();
    }

    private static void describe(ClauseProver p, int k, StringBuilder answers) {
        for (int what = 0; what < 8; what++) {
            answers.append(p.clause(k, what)).append(' ');
        }
        answers.append('[');
        for (int i = 0; i < p.clause(k, 7); i++) {
            answers.append(p.rewrote(k, i)).append(' ');
        }
        answers.append("] ");
        for (int i = 0; i < p.clause(k, 3); i++) {
            for (int what = 0; what < 4; what++) {
                answers.append(p.literal(k, i, what)).append(what < 3 ? "," : " ");
            }
        }
        int length = p.show(k);
        for (int i = 0; i < length; i++) {
            answers.append((char) p.out(i));
        }
    }
}
