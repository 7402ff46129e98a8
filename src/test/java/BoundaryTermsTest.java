import java.io.IOException;

/** The parts "What it is" and "Terms" of the document, sentence by sentence: the boundaries that each of them names. */
public final class BoundaryTermsTest {
    private static final int CALLS = 512;

    public static void main(String[] args) throws IOException {
        Watch.start();
        whatItIs();
        Boundary.part("Terms");
        TermsOfValley.all();
        TermsOfSounds.all();
        TermsOfText.all();
        TermsOfAnswers.all();
        TermsOfState.all();
        Boundary.end();
    }

    private static void whatItIs() {
        Boundary.part("What it is");
        Boundary.says("Heard by licence: a valley of cells whose air has owners; sounds of kinds over one another that go only where"
            + " their maker has leave, for hours, so loud; hedges, cliffs that give back what they stole; who hears what, how loud,"
            + " what it costs, where it would have trespassed; the cheapest leaves by which told ones hear and others do not;"
            + " criers from one to another, soonest; who shouted where, by all that nine ears tell; the fewest leaves taken back so"
            + " that all is still; a word carried by an echo, the cheapest mend; air let on and on, in rings, who is liable; the"
            + " first hour; the loudest peal; thunder by a seed; a valley told by a text; leaves given and taken, undone, images,"
            + " and what was refused, by reason. 1 THE VALLEY has W by H CELLS (1 ..");
        Boundary.asks("An object is used for at most 512 calls after it has been made; what later calls answer is free.", () -> {
            LentAir x = new LentAir();
            for (int call = 1; call <= CALLS; call++) {
                Boundary.due("call number " + call, x.fee(5, call % 100), call == 1 ? 1 : (call - 1) % 100);
            }
            // 511 refused ones, all of which are counted by the 512th.
            LentAir y = new LentAir();
            for (int call = 1; call < CALLS; call++) {
                Boundary.due("call number " + call, y.undo(), -3);
            }
            Boundary.due("call number 512", y.status(1), CALLS - 1);
            // Each one is the last one of some run; later calls end, too, whatever they answer.
            LentAir z = new LentAir();
            z.maker(0, 0, 0);
            for (int call = 2; call < CALLS; call++) {
                Boundary.due("call number " + call, call % 2 == 0 ? z.leave(0, 0, 0, 0, 1) : z.take(0), 0);
            }
            Boundary.due("call number 512", z.count(4), 8);
            for (int call = 0; call < 100; call++) {
                z.undo();
                z.leave(0, 0, 0, 0, 1);
                z.type(call);
                z.buy(0, 20, 0, 1);
                z.digest();
            }
        });
    }
}
