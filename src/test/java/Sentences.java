import java.util.HashSet;
import java.util.Set;
import java.util.regex.Matcher;
import java.util.regex.Pattern;

/**
 * Goes through the document: each sentence, or part of one, gets a test of its own, in the
 * document's order, and none is left out.
 */
final class Sentences {
    /** These tell of no call: FaceTest has the face. */
    private static final Set<String> WITHOUT_TESTS = Set.of("The public face", "Not promised");

    private final String document;
    private final Checks checks;
    private final Set<String> sections = new HashSet<>(WITHOUT_TESTS);
    private String heading = "";
    /** What of the section under the heading has no test yet. */
    private String rest = "";
    private int told;
    private int broken;

    Sentences(String document, Checks checks) {
        this.document = document;
        this.checks = checks;
    }

    Checks checks() {
        return checks;
    }

    void under(String next) {
        leaveSection();
        heading = next;
        sections.add(heading);
        checks.about(heading);
        Pattern section = Pattern.compile("(?s)## " + Pattern.quote(heading) + "\n(.*?)(?=\n## |$)");
        Matcher matcher = section.matcher(document);
        boolean found = matcher.find();
        checks.due("the document has this section", found, true);
        // A promise's section begins with its call, of which FaceTest has every one.
        rest = found ? matcher.group(1).replaceFirst("^\\s*`[^`]*`:", "") : "";
    }

    void holds(String words, Checks.Call test) {
        checks.about(heading + ": " + words);
        int before = checks.wrong();
        int at = rest.indexOf(words);
        checks.due("comes next in the document", at >= 0 && isGap(rest.substring(0, at)), true);
        rest = at >= 0 ? rest.substring(at + words.length()) : rest;
        try {
            test.run();
        } catch (RuntimeException | AssertionError e) {
            checks.broken(e);
        }
        told++;
        broken += checks.wrong() > before ? 1 : 0;
    }

    private static boolean isGap(String text) {
        return text.matches("[\\s.,;:()]*");
    }

    private void leaveSection() {
        checks.due("what is left of the section", isGap(rest) ? "" : rest, "");
    }

    void finish() {
        leaveSection();
        Matcher headings = Pattern.compile("(?m)^## (.*)$").matcher(document);
        while (headings.find()) {
            checks.about(headings.group(1));
            checks.due("this section has tests", sections.contains(headings.group(1)), true);
        }
        System.out.println(told + " sentences, " + broken + " broken");
        checks.finish();
    }
}
