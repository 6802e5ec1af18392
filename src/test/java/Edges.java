import java.io.IOException;
import java.nio.file.Files;
import java.nio.file.Path;
import java.util.ArrayList;
import java.util.LinkedHashMap;
import java.util.List;
import java.util.Map;
import java.util.function.Supplier;
import java.util.function.ToLongFunction;

/**
 * Tests of the document's edges, sentence by sentence: each check belongs to words quoted from a
 * part of the document, and words without a check, or that the document doesn't have, are wrong.
 */
final class Edges {
    private static final Path DOCUMENT = Path.of("../shared/DOC.md");

    private final Due due = new Due();
    private final String document;
    private final Map<String, String> parts = new LinkedHashMap<>();
    private final Map<String, List<String>> quotes = new LinkedHashMap<>();
    private String part = "";
    private String quote = "";
    private int sentences;
    private int checks;

    Edges() {
        String found = "";
        try {
            found = Files.readString(DOCUMENT);
        } catch (IOException e) {
            System.out.println("no document at " + DOCUMENT + ": the quotes are not looked at");
        }
        document = found.replaceAll("\\s+", " ");
    }

    void promise(int number) {
        begin("## Promise " + number + ": ", "## ");
    }

    void terms() {
        begin("## Terms ", "==== 2. ");
    }

    /** The part ==== 2. (and so on) of the terms. */
    void numbered(int number) {
        begin("==== " + number + ". ", number == 4 ? "## " : "==== ");
    }

    private void begin(String heading, String next) {
        part = heading.trim();
        quote = "";
        // '==== 1.' also stands at the end of the document's first words, hence the last place.
        int from = document.lastIndexOf(heading);
        int to = from < 0 ? -1 : document.indexOf(next, from + heading.length());
        parts.put(part, to < 0 ? "" : document.substring(from + heading.length(), to));
        quotes.putIfAbsent(part, new ArrayList<>());
        if (!document.isEmpty()) {
            due.yes("the document has " + part, to >= 0);
        }
    }

    void sentence(String words) {
        endSentence();
        quote = words;
        sentences++;
        checks = 0;
        quotes.get(part).add(words);
        if (!document.isEmpty()) {
            due.yes(part + " says '" + words + "'", parts.get(part).contains(words));
        }
    }

    private void endSentence() {
        due.yes(part + " '" + quote + "' has a check", sentences == 0 || checks > 0);
    }

    void same(String what, long want, long got) {
        checks++;
        due.same(part + " '" + quote + "': " + what, want, got);
    }

    void yes(String what, boolean got) {
        same(what, 1, got ? 1 : 0);
    }

    void no(String what, boolean got) {
        same(what, 0, got ? 1 : 0);
    }

    void alike(String what, String want, String got) {
        if (!want.equals(got)) {
            System.out.println("due " + want + "\ngot " + got);
        }
        yes(what, want.equals(got));
    }

    /** A call that is refused so, and of which nothing comes: neither now nor later. */
    void refused(String what, long want, Supplier<BathOrders> made, ToLongFunction<BathOrders> call) {
        BathOrders x = made.get();
        String before = State.of(x);
        same(what, want, call.applyAsLong(x));
        alike(what + " changes nothing", before, State.of(x));
        alike(what + " changes nothing that comes", State.later(made.get()), State.later(x));
    }

    /** With an argument, tells what of the quoted parts no sentence has quoted. */
    void end(String[] arguments) {
        endSentence();
        for (String one : parts.keySet()) {
            String left = parts.get(one);
            for (String words : quotes.get(one)) {
                left = left.replace(words, " ~ ");
            }
            if (arguments.length > 0) {
                System.out.println("left of " + one + ": " + left);
            }
        }
        System.out.println(sentences + " sentences");
        due.end();
    }
}
