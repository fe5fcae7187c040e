import java.io.IOException;
import java.util.Set;
import java.util.TreeSet;

/**
 * Each sentence of the document that names a boundary case has a run of its own. The sentences are held
 * against the document: none may be misquoted, and none that needs a run may go without.
 */
public final class BoundaryTest {
    private static final Check CHECK = new Check("BoundaryTest");

    public static void main(String[] args) throws IOException {
        Boundaries boundaries = new Boundaries();
        SensorBoundaries.addTo(boundaries);
        HumidityBoundaries.addTo(boundaries);
        DriftBoundaries.addTo(boundaries);
        ClassBoundaries.addTo(boundaries);
        DistanceBoundaries.addTo(boundaries);
        NeighbourBoundaries.addTo(boundaries);
        LeaveOneOutBoundaries.addTo(boundaries);
        ScoreBoundaries.addTo(boundaries);
        RefusalBoundaries.addTo(boundaries);
        Player player = new Player(CHECK);
        for (Boundaries.Run run : boundaries.runs()) {
            player.play(run.place() + ", \"" + run.sentence() + "\"", run.calls());
        }
        if (Sentences.canBeRead()) {
            holdAgainstTheDocument(boundaries);
        } else {
            System.out.println("BoundaryTest: ../shared/DOC.md can't be read; the sentences were not compared");
        }
        CHECK.end();
    }

    private static void holdAgainstTheDocument(Boundaries boundaries) throws IOException {
        Set<String> run = new TreeSet<>();
        for (Boundaries.Run one : boundaries.runs()) {
            run.add(one.place() + ": " + one.sentence());
        }
        Set<String> written = new TreeSet<>();
        for (Sentences.Sentence sentence : Sentences.ofTheDocument()) {
            String key = sentence.place() + ": " + sentence.text();
            written.add(key);
            CHECK.holds(key + " (has a run)", !sentence.needsRun() || run.contains(key));
        }
        for (String key : run) {
            CHECK.holds(key + " (stands in the document)", written.contains(key));
        }
    }
}
