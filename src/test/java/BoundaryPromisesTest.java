import java.io.IOException;

/** The promises 1 to 35 of the document, sentence by sentence: the boundaries that each of them names. */
public final class BoundaryPromisesTest {
    public static void main(String[] args) throws IOException {
        Watch.start();
        PromisesOfValley.all();
        PromisesOfSounds.all();
        PromisesOfLeaves.all();
        PromisesOfState.all();
        Boundary.end();
    }
}
