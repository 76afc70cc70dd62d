import java.io.IOException;
import java.nio.file.Files;
import java.nio.file.Path;
import java.util.ArrayList;
import java.util.LinkedHashMap;
import java.util.List;
import java.util.Map;

/** The document beside the project, against which the words that tests name are held. */
final class Document {
    private static final Path WHERE = Path.of("../shared/DOC.md");
    private static final String FACE = "The public face";

    private Document() {
    }

    static boolean isHere() {
        if (!Files.exists(WHERE)) {
            System.out.println("the document is not here, nothing was compared with it");
            return false;
        }
        return true;
    }

    /** Every sentence that a test names stands in the document, and none of its promises is without one. */
    static void compare(List<Bench.Sentence> sentences) {
        if (!isHere()) {
            return;
        }
        Map<String, String> left = sections();
        for (Bench.Sentence sentence : sentences) {
            String section = left.getOrDefault(sentence.heading, "");
            int at = section.indexOf(sentence.words);
            if (at < 0) {
                Bench.complain("the document does not say, under " + sentence.heading + ": " + sentence.words);
            } else {
                String behind = section.substring(at + sentence.words.length());
                left.put(sentence.heading, section.substring(0, at) + behind);
            }
        }
        for (Map.Entry<String, String> section : left.entrySet()) {
            if (isTested(section.getKey()) && !section.getValue().isBlank()) {
                Bench.complain("no test holds, under " + section.getKey() + ", to: " + section.getValue().strip());
            }
        }
    }

    private static boolean isTested(String heading) {
        return heading.equals("What it is") || heading.equals("Terms") || heading.startsWith("Promise ");
    }

    /** The text under each heading, in one line, without the faces of the promises. */
    private static Map<String, String> sections() {
        Map<String, String> all = new LinkedHashMap<>();
        String heading = "";
        for (String line : lines()) {
            if (line.startsWith("## ")) {
                heading = line.substring(3).strip();
            } else if (!line.startsWith("```")) {
                String words = line.replaceFirst("^`[^`]*`:", "").replaceAll("\\s+", " ").strip();
                all.merge(heading, words, (before, more) -> (before + " " + more).strip());
            }
        }
        return all;
    }

    /** What stands between the braces of the public face, line by line. */
    static List<String> face() {
        List<String> members = new ArrayList<>();
        String heading = "";
        for (String line : lines()) {
            if (line.startsWith("## ")) {
                heading = line.substring(3).strip();
            } else if (heading.equals(FACE) && line.startsWith("    ")) {
                members.add(line.strip());
            }
        }
        return members;
    }

    /** The faces that the promises begin with, in their order. */
    static List<String> promised() {
        List<String> faces = new ArrayList<>();
        for (String line : lines()) {
            if (line.matches("`[^`]*`:.*")) {
                faces.add(line.substring(1, line.indexOf('`', 1)));
            }
        }
        return faces;
    }

    private static List<String> lines() {
        try {
            return Files.readAllLines(WHERE);
        } catch (IOException e) {
            Bench.complain("the document can't be read: " + e);
            return List.of();
        }
    }
}
