import java.io.IOException;

/** Every sentence of the document that names a boundary, each with tests of its own. */
public final class BoundariesTest {
    public static void main(String[] args) throws IOException {
        Sheet sheet = new Sheet();
        new TextBounds(sheet).test();
        new DeedBounds(sheet).test();
        new PlanBounds(sheet).test();
        new HeardBounds(sheet).test();
        new KindBounds(sheet).test();
        new Refusals(sheet).test();
        sheet.allIsQuoted();
        System.exit(sheet.end("BoundariesTest"));
    }
}
