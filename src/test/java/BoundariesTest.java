import java.io.IOException;

/** The boundary cases that the document names; each test says which of its sentences it stands for. */
public final class BoundariesTest {
    public static void main(String[] args) throws IOException {
        Sentences.plain("What it is", "Texts that say which fields objects have in an index: fields within fields, their kinds and options, copies to others, "
            + "other names for them, rules for fields that come later, limits.");
        Sentences.plain(Sentences.TERMS, "A text is taken, printed back, grows by what is met in objects; versions are held against one another for what must be "
            + "indexed anew.");
        Sentences.plain(Sentences.TERMS, "1 TEXTS.");
        TokenBoundaries.run();
        GrammarBoundaries.run();
        FaultBoundaries.run();
        VersionBoundaries.run();
        CallBoundaries.run();
        Sentences.holdAgainstDocument();
        Checks.end();
    }
}
