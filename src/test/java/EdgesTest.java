import java.io.IOException;

/** Every sentence of the document, each with a test of its own; nothing in it is left without one. */
public final class EdgesTest {
    public static void main(String[] args) throws IOException {
        Edge.open(args[1]);
        EdgesOfStrips.run();
        EdgesOfCreases.run();
        EdgesOfWalks.run();
        EdgesOfTold.run();
        EdgesOfShelves.run();
        PromisesOfShelves.run();
        PromisesOfStrips.run();
        PromisesOfWalks.run();
        PromisesOfTold.run();
        PromisesOfActs.run();
        Edge.report();
    }
}
