import java.io.IOException;

/** All sentences of the document's Terms and promises, each with the answers that are due by it at its edges. */
public final class EdgesTest {
    public static void main(String[] args) throws IOException {
        Sentences s = new Sentences();
        new EdgesOfRefusals(s).run();
        new EdgesOfDays(s).run();
        new EdgesOfPersons(s).run();
        new EdgesOfForms(s).run();
        new EdgesOfPetitions(s).run();
        new EdgesOfLetters(s).run();
        new EdgesOfSeals(s).run();
        new EdgesOfWitnesses(s).run();
        new EdgesOfReturns(s).run();
        new EdgesOfHost(s).run();
        new EdgesOfKept(s).run();
        s.end();
    }
}
