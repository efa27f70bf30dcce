import java.io.IOException;
import java.nio.file.Files;
import java.nio.file.Path;
import java.util.ArrayList;
import java.util.List;

/** Names the words of the document that checks hold to, and sees to it that no words are left out. */
final class Sentence {
    private static final Path DOCUMENT = Path.of("../shared/DOC.md");

    private static final List<String> NAMED = new ArrayList<>();

    private Sentence() {
    }

    /** Words without a check of their own, or whose checks can't go on, are a fault. */
    static void holds(String words, Runnable checks) {
        NAMED.add(words);
        Desk.names(words);
        int before = Desk.checks();
        try {
            checks.run();
        } catch (RuntimeException e) {
            Desk.fault("the checks met " + e);
        }
        if (Desk.checks() == before) {
            Desk.fault("nothing was checked");
        }
        Desk.names("");
    }

    /** Every sentence of the terms and the promises is named, in the document's own words. */
    static void allAreNamed() {
        if (!Files.exists(DOCUMENT)) {
            System.out.println("no " + DOCUMENT + " here: the sentences are not compared with it");
            return;
        }
        String whole = String.join("\n", lines());
        String left = termsAndPromises();
        for (String words : NAMED) {
            Desk.due("'" + words + "' stands in the document", whole.contains(words) ? 1 : 0, 1);
            left = left.replace(words, "\n");
        }
        for (String words : left.split("\n")) {
            if (!words.isBlank()) {
                Desk.fault("no test names '" + words.strip() + "'");
            }
        }
    }

    private static String termsAndPromises() {
        StringBuilder all = new StringBuilder();
        boolean inside = false;
        for (String line : lines()) {
            if (line.startsWith("## ")) {
                inside = line.equals("## Terms") || line.startsWith("## Promise ");
            } else if (inside && !line.startsWith("```")) {
                all.append(withoutSignature(line).strip()).append('\n');
            }
        }
        return all.toString();
    }

    private static String withoutSignature(String line) {
        int end = line.indexOf("`: ");
        return line.startsWith("`") && end > 0 ? line.substring(end + 3) : line;
    }

    private static List<String> lines() {
        try {
            return Files.readAllLines(DOCUMENT);
        } catch (IOException e) {
            Desk.fault("the document can't be read: " + e);
            return List.of();
        }
    }
}
