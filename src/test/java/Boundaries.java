import java.util.ArrayList;
import java.util.List;

/** The runs that hold the document's sentences on boundary cases, each under the sentence that it holds. */
final class Boundaries {
    /** A sentence, or a part of one between semicolons, where it stands, and a run that would break it. */
    record Run(String place, String sentence, String calls) { }

    private final List<Run> runs = new ArrayList<>();
    private String place = "";

    /** What follows stands here: "Section 2", or "Promise 10". */
    void place(String name) {
        place = name;
    }

    /** The calls go on over the strings; how they are written stands at Player. */
    void says(String sentence, String... calls) {
        runs.add(new Run(place, sentence, String.join(" ", calls)));
    }

    List<Run> runs() {
        return runs;
    }
}
