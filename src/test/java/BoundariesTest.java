import java.io.IOException;
import java.nio.file.Path;

/**
 * A test for each sentence of the document, with its boundary cases. A test names its sentence by Says, and
 * bears the sentence's name in what it prints; a sentence without a test is wrong too. Run from the
 * project's directory.
 */
public final class BoundariesTest {
    public static void main(String[] args) throws IOException {
        Sentences document = new Sentences(Path.of("../shared/DOC.md"));
        Class<?>[] all = {ErrorEdges.class, TextEdges.class, TextCallEdges.class, ProofEdges.class, ReachCallEdges.class,
            ProofCallEdges.class, TrialEdges.class, ImageEdges.class};
        for (Class<?> tests : all) {
            document.run(tests);
        }
        namesNoBoundary(document);
        document.allAreTold();
        Due.end();
    }

    /** What needs no test: it says what others say more closely, or leaves something free. FaceTest has the face. */
    private static void namesNoBoundary(Sentences document) {
        document.tell("What it is", "A prover for a fragment of linear logic.");
        document.tell("What it is", "The class reads resources, wells and a goal from texts, computes with which sets of resources "
                + "and within which height the goal can be proved, which resources can be left over, in how many ways, "
                + "and the first proof as a sequence of numbers; and it checks proofs that are given as such sequences.");
        document.tell("What it is", "what later calls answer is free.");
        document.tellAll("The public face");
        document.tell("Errors", "The constants:");
        document.tell("Errors", "The constructor and the methods follow, a promise each: the signature, then what it does.");
        document.tellAll("Not promised");
    }
}
