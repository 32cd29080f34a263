import java.io.IOException;
import java.nio.file.Path;

/** Each sentence of the document's terms and promises has a test of its own; none goes without. */
public final class SentencesTest {
    public static void main(String[] args) throws IOException {
        Page page = new Page(Path.of("../shared/DOC.md"));
        new TermSentences(page).all();
        new NetSentences(page).all();
        new RuleSentences(page).all();
        new HourSentences(page).all();
        new PlanSentences(page).all();
        new RestSentences(page).all();
        page.end();
    }
}
