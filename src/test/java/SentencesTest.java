import java.io.IOException;

/** Each sentence of the Terms and of the promises with its own test, both sides of each boundary; see Ledger. */
public final class SentencesTest {
    private SentencesTest() { }

    public static void main(String[] args) throws IOException {
        Ledger l = new Ledger();
        TermsShore.tell(l);
        TermsTexts.tell(l);
        TermsWeeks.tell(l);
        TermsReckoning.tell(l);
        PromisesShore.tell(l);
        PromisesActs.tell(l);
        PromisesReckoning.tell(l);
        l.end();
        Checks.end("SentencesTest");
    }
}
