/** Every boundary case that the document names, each by a test of its own: see Sentences. */
public final class BoundsTest {
    private BoundsTest() {
    }

    public static void main(String[] args) {
        all().run();
    }

    static Sentences all() {
        Sentences s = new Sentences();
        TermsOneBounds.all(s);
        TextBounds.all(s);
        TermsTwoBounds.all(s);
        TermsThreeBounds.all(s);
        ElementsBounds.all(s);
        IdealsBounds.all(s);
        TapesBounds.all(s);
        return s;
    }
}
