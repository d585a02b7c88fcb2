import java.io.IOException;
import java.nio.file.Files;
import java.nio.file.Path;
import java.util.ArrayList;
import java.util.List;
import java.util.regex.Matcher;
import java.util.regex.Pattern;

/**
 * Runs the files under src/test/sentences: each sentence of the document with calls that would
 * answer otherwise if it did not hold. README.md tells how the files are written. It is wrong, too,
 * if a sentence is quoted that the document has not, or if one is left unquoted. Behind each call
 * that throws or is refused, all that can be asked is held against an object that was spared it.
 */
public final class SentenceTest {
    private static final Path SENTENCES = Path.of("src/test/sentences");
    private static final Path DOCUMENT = Path.of("../shared/DOC.md");
    private static final Pattern REPEATED = Pattern.compile("\\{([^{}]*)\\}(\\d+)");
    private static final Pattern JOB = Pattern.compile("@(\\d)");
    private static final Pattern BYTE = Pattern.compile("\\\\x([0-9a-f]{2})");

    private final Document document;
    private Path file;
    private int line;
    private String section;
    private String sentence;
    private int stepsOfSentence;
    private Calls calls;
    private int steps;
    private int wrong;

    private SentenceTest(Document document) {
        this.document = document;
    }

    public static void main(String[] args) throws IOException {
        SentenceTest test = new SentenceTest(new Document(DOCUMENT));
        List<Path> files;
        try (var found = Files.list(SENTENCES)) {
            files = found.filter(f -> f.toString().endsWith(".txt")).sorted().toList();
        }
        for (Path file : files) {
            test.read(file);
        }
        for (String piece : test.document.unquoted()) {
            test.wrong++;
            System.out.println("not tested: " + piece);
        }
        if (test.wrong > 0) {
            System.out.println("SentenceTest: " + test.wrong + " things are wrong");
            System.exit(1);
        }
        System.out.println("SentenceTest: " + test.steps + " calls and texts answer as the sentences say");
    }

    private void read(Path itsFile) throws IOException {
        file = itsFile;
        line = 0;
        section = null;
        sentence = null;
        List<String> quote = new ArrayList<>();
        for (String text : Files.readAllLines(file)) {
            line++;
            if (text.startsWith("> ")) {
                if (quote.isEmpty()) {
                    endSentence();
                }
                quote.add(text.substring(2).strip());
                continue;
            }
            if (!quote.isEmpty()) {
                beginSentence(String.join(" ", quote));
                quote.clear();
            }
            if (text.startsWith("# ")) {
                endSentence();
                section = text.substring(2);
                check(document.has(section), "the document has no section " + section);
            } else if (!text.isBlank() && !text.startsWith("//")) {
                for (String step : text.strip().split(" / ")) {
                    run(step.strip());
                }
            }
        }
        endSentence();
    }

    private void check(boolean so, String otherwise) {
        if (!so) {
            wrong++;
            System.out.println(file + ":" + line + ": " + otherwise + (sentence == null ? "" : " (" + section + ": " + sentence + ")"));
        }
    }

    private void beginSentence(String quote) {
        sentence = quote;
        stepsOfSentence = 0;
        calls = null;
        check(document.quote(section, quote), "the document does not say so");
    }

    private void endSentence() {
        check(sentence == null || stepsOfSentence > 0, "a sentence without a test");
        sentence = null;
    }

    private void run(String step) {
        steps++;
        stepsOfSentence++;
        String text = step.indexOf('\'') < 0 ? null : unfolded(step.substring(step.indexOf('\'') + 1, step.lastIndexOf('\'')));
        String rest = text == null ? step : step.substring(0, step.indexOf('\'')) + step.substring(step.lastIndexOf('\'') + 1);
        String due = rest.contains("=") ? rest.substring(rest.indexOf('=') + 1).strip() : null;
        String call = (due == null ? rest : rest.substring(0, rest.indexOf('='))).strip();
        if (call.startsWith("nothing")) {
            return;
        }
        if (call.equals("new") || call.startsWith("new ")) {
            begin(unfolded(call.substring(3).strip()));
        } else if (call.startsWith("wrong")) {
            readWrong(call, text, due);
        } else if (call.startsWith("tokens")) {
            readTokens(call, text);
        } else {
            make(call, text, due);
        }
        check(calls == null || calls.count() <= Calls.MOST, "more than " + Calls.MOST + " calls on one object");
    }

    /** {x}3 stands for xxx, @2 for a whole JOB of GROUP 2, \x09 for the byte of that number. */
    private static String unfolded(String text) {
        String repeated = REPEATED.matcher(text).replaceAll(m -> Matcher.quoteReplacement(m.group(1).repeat(Integer.parseInt(m.group(2)))));
        String jobs = JOB.matcher(repeated).replaceAll("job group $1 priority 0 cost 1");
        return BYTE.matcher(jobs).replaceAll(m -> Matcher.quoteReplacement("" + (char) Integer.parseInt(m.group(1), 16)));
    }

    private void begin(String text) {
        calls = new Calls();
        if (!text.isEmpty()) {
            calls.feed(text);
            check(calls.make("table").equals("1"), "a text that is wrong at " + calls.make("fault") + ": " + text);
        }
    }

    private void make(String told, String text, String due) {
        Matcher times = Pattern.compile("(\\d+)x (.*)").matcher(told);
        int repeats = times.matches() ? Integer.parseInt(times.group(1)) : 1;
        String call = times.matches() ? times.group(2) : told;
        for (int i = 0; i < repeats; i++) {
            if (text != null) {
                calls.feed(text);
            }
            String name = call.split(" ")[0];
            if (name.endsWith("*")) {
                String got = calls.all(call.replace("*", ""));
                check(got.equals(due), call + " answers " + got + ", due is " + due);
            } else {
                String got = calls.make(call);
                boolean fine = due == null ? !isThrown(got) : got.equals(due);
                check(fine, call + " answers " + got + ", due is " + (due == null ? "no exception" : due));
                if (isThrown(got) || got.equals("false") || name.equals("feed") && got.equals("-1")) {
                    leavesAll(name, got);
                }
            }
        }
    }

    private static boolean isThrown(String answer) {
        return answer.matches("[A-Z].*");
    }

    /** The object that was spared the refused call must answer all like the one that was not. */
    private void leavesAll(String name, String got) {
        Calls spared = calls.without(1);
        boolean reads = name.equals("table") || name.equals("query");
        if (reads) {
            // That call uses the TAPE up all the same.
            spared.make("end 0");
        }
        List<String> due = spared.everything(!got.equals("ISE"), !reads);
        List<String> left = calls.without(0).everything(!got.equals("ISE"), !reads);
        for (int i = 0; i < due.size() || i < left.size(); i++) {
            String one = i < due.size() ? due.get(i) : "nothing";
            String other = i < left.size() ? left.get(i) : "nothing";
            if (!one.equals(other)) {
                check(false, name + " is refused by " + got + " and leaves '" + other + "' in place of '" + one + "'");
                return;
            }
        }
    }

    private void readWrong(String told, String text, String due) {
        String call = told.equals("wrong") ? "table" : "query " + told.substring(6);
        make(call, text, "IAE");
        String got = calls.make("fault");
        check(got.equals(due), "'" + text + "' is wrong at " + got + ", due is " + due);
    }

    // ---- texts by their tokens ----

    private void readTokens(String told, String text) {
        new Tokens(told.equals("tokens") ? "table" : "query " + told.substring(7), text).run();
    }

    /** A right text, told token by token, and all that comes of it by spoiling one of them. */
    private final class Tokens {
        private final String call;
        private final List<String> all = new ArrayList<>();
        private final List<Boolean> mayEndAhead = new ArrayList<>();

        Tokens(String call, String text) {
            this.call = call;
            for (String token : text.split("\\|")) {
                boolean optional = token.length() > 1 && token.startsWith("?");
                all.add(optional ? token.substring(1) : token);
                mayEndAhead.add(optional);
            }
        }

        void run() {
            reads(joined(all, " "), -1);
            reads("  " + joined(all, "   ") + " ", -1);
            reads(dense(), -1);
            reads(joined(all, " ") + " ~", joined(all, " ").length() + 1);
            for (int i = 0; i < all.size(); i++) {
                spoil(i);
            }
        }

        private void spoil(int i) {
            String token = all.get(i);
            String ahead = joined(all.subList(0, i), " ");
            int begin = i == 0 ? 0 : ahead.length() + 1;
            reads(ahead, mayEndAhead.get(i) ? -1 : ahead.length());
            reads(ahead + "  ", mayEndAhead.get(i) ? -1 : ahead.length() + 2);
            for (String foreign : new String[] {"~", "\t", "\0", "\u00ff", "foo", "A", "-1", "."}) {
                reads(with(i, foreign), begin);
            }
            if (Character.isLetter(token.charAt(0))) {
                for (String foreign : new String[] {token + "x", token.substring(1), token.toUpperCase(), token.substring(0, token.length() - 1), "7"}) {
                    reads(with(i, foreign), begin);
                }
            } else if (Character.isDigit(token.charAt(0))) {
                reads(with(i, "0".repeat(3 - token.length()) + token), -1);
                for (String foreign : new String[] {"0".repeat(4 - token.length()) + token, token + "0000", "1000", "9999999999", "x" + token}) {
                    reads(with(i, foreign), begin);
                }
            }
        }

        private String with(int i, String foreign) {
            List<String> other = new ArrayList<>(all);
            other.set(i, foreign);
            return joined(other, " ");
        }

        private static String joined(List<String> tokens, String between) {
            return String.join(between, tokens);
        }

        /** Blanks only where two words or two numbers would run together. */
        private String dense() {
            StringBuilder text = new StringBuilder();
            for (String token : all) {
                char first = token.charAt(0);
                char last = text.length() == 0 ? ' ' : text.charAt(text.length() - 1);
                boolean run = Character.isLetter(first) && Character.isLetter(last) || Character.isDigit(first) && Character.isDigit(last);
                text.append(run ? " " : "").append(token);
            }
            return text.toString();
        }

        private void reads(String text, int due) {
            begin("session");
            calls.feed(text);
            String got = calls.make(call);
            String fault = calls.make("fault");
            boolean fine = fault.equals("" + due) && got.equals("IAE") == (due >= 0);
            check(fine, "'" + text + "' answers " + got + " and is wrong at " + fault + ", due is " + due);
            steps++;
        }
    }
}
