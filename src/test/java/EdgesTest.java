import java.io.IOException;

/** Each sentence of the document, Terms and promises, with a test of its own for the boundary that it names. */
public final class EdgesTest {
    public static void main(String[] args) throws IOException {
        Sentences.read();
        EdgesOfText.run();
        EdgesOfLevel.run();
        EdgesOfStick.run();
        EdgesOfSticks.run();
        EdgesOfAnyStep.run();
        EdgesOfSeen.run();
        EdgesOfSluices.run();
        EdgesOfChance.run();
        EdgesOfActs.run();
        EdgesOfSlots.run();
        Sentences.allAreNamed();
        Due.end();
    }
}
