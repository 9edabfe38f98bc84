/** Every sentence of the document's terms and promises, quoted, with its edges: too small, too large, empty, full, refused. */
public final class SentencesTest {
    private SentencesTest() {
    }

    public static void main(String[] args) {
        TermsThings.run();
        TermsTake.run();
        TermsCharge.run();
        TermsTick.run();
        TermsBack.run();
        PromisesTell.run();
        PromisesSet.run();
        PromisesLook.run();
        PromisesPaper.run();
        PromisesBack.run();
        Check.allIsQuoted();
        Check.end("sentences");
    }
}
