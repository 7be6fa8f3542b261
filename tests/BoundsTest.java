import java.io.IOException;

/**
 * Boundary cases, sentence by sentence of the document: each test names the promise (or the part of "Terms") and the
 * sentence, and each sentence of them has tests.
 */
public final class BoundsTest {
    public static void main(String[] args) throws IOException {
        Bound.open();
        TownBounds.all();
        TapeBounds.all();
        SightBounds.all();
        PaintBounds.all();
        WayBounds.all();
        ImageBounds.all();
        Bound.close();
        Due.finish();
    }
}
