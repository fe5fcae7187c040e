import java.io.IOException;
import java.nio.file.Files;
import java.nio.file.Path;
import java.util.ArrayList;
import java.util.List;
import java.util.regex.Matcher;
import java.util.regex.Pattern;

/** The document's sentences, parted at semicolons, and which of them must have a boundary run. */
final class Sentences {
    record Sentence(String place, String text, boolean needsRun) { }

    private static final Path DOCUMENT = Path.of("../shared/DOC.md");
    private static final Pattern SECTION = Pattern.compile("(\\d)\\. [A-Z].*");
    private static final Pattern PROMISE = Pattern.compile("## Promise (\\d+):.*");

    private final List<Sentence> all = new ArrayList<>();

    static boolean canBeRead() {
        return Files.isReadable(DOCUMENT);
    }

    static List<Sentence> ofTheDocument() throws IOException {
        Sentences sentences = new Sentences();
        String text = Files.readString(DOCUMENT);
        int promises = text.indexOf("## Promise 1:");
        sentences.readSections(text.substring(text.indexOf("## Description"), promises));
        sentences.readPromises(text.substring(promises, text.indexOf("## Not promised")));
        return sentences.all;
    }

    private static String[] parts(String line) {
        return line.split("(?<=\\.) (?=[A-Z])|; ");
    }

    /** Every sentence of a numbered section needs a run; the introduction and the examples do not. */
    private void readSections(String text) {
        String place = "Description";
        for (String line : text.split("\n")) {
            Matcher heading = SECTION.matcher(line);
            if (line.startsWith("Examples")) {
                return;
            }
            if (heading.matches()) {
                place = "Section " + heading.group(1);
            } else if (!line.isEmpty() && !line.startsWith("## ")) {
                for (String part : parts(line)) {
                    all.add(new Sentence(place, part, place.startsWith("Section")));
                }
            }
        }
    }

    /** Parameters, the answers behind the first one, and words on what is equal need a run. */
    private void readPromises(String text) {
        String place = "";
        for (String line : text.split("\n")) {
            Matcher heading = PROMISE.matcher(line);
            if (heading.matches()) {
                place = "Promise " + heading.group(1);
            } else if (!line.isEmpty() && !line.startsWith("`") && !line.startsWith("----")) {
                String[] parts = parts(line);
                for (int i = 0; i < parts.length; i++) {
                    boolean further = line.startsWith("Returns") && i > 0;
                    boolean needed = line.startsWith("- ") || further || parts[i].contains("equal");
                    all.add(new Sentence(place, parts[i], needed));
                }
            }
        }
    }
}
