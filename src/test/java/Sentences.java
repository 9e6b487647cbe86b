import java.io.IOException;
import java.nio.file.Files;
import java.nio.file.Path;
import java.util.ArrayList;
import java.util.BitSet;
import java.util.LinkedHashMap;
import java.util.List;
import java.util.Map;
import java.util.regex.Matcher;
import java.util.regex.Pattern;

/**
 * The sentences of the document. A test names the one that it holds the class to ahead of the answers that it
 * asks for, so that a sentence that is misquoted, has no test or whose test asks for nothing is found.
 */
final class Sentences {
    private final Map<String, String> texts = new LinkedHashMap<>();
    private final Map<String, BitSet> named = new LinkedHashMap<>();
    private final List<String> faults = new ArrayList<>();
    private String now;
    private int askedNow;
    private int sentences;
    private int asked;

    Sentences() throws IOException {
        String doc = Files.readString(Path.of("../shared/DOC.md")).replaceAll("```(text)?", " ").replaceAll("\\s+", " ");
        String terms = doc.substring(doc.indexOf("## Terms ") + 9, doc.indexOf("Ahead of the calls "));
        String[] sections = terms.split("======== \\d+ ");
        for (int i = 0; i < sections.length; i++) put("Terms " + i, sections[i]);
        Matcher m = Pattern.compile("## Promise (\\d+): \\S[^`]*`[^`]*`: (.*?)(?= ## )").matcher(doc);
        while (m.find()) put("Promise " + m.group(1), m.group(2));
        if (texts.size() != 14 + 63) faults.add("the document has other sections than it had");
    }

    private void put(String section, String text) {
        texts.put(section, text.trim());
        named.put(section, new BitSet());
    }

    /** What follows is due by a sentence of a section of the Terms; 0 is what stands ahead of the first. */
    void terms(int section, String sentence) {
        begin("Terms " + section, sentence);
    }

    /** What follows is due by a sentence of a promise. */
    void promise(int number, String sentence) {
        begin("Promise " + number, sentence);
    }

    private void begin(String section, String sentence) {
        endOfSentence();
        now = section + ", \"" + sentence + "\"";
        sentences++;
        int at = texts.get(section).indexOf(sentence);
        if (at < 0) faults.add(now + " does not stand there");
        else named.get(section).set(at, at + sentence.length());
    }

    private void endOfSentence() {
        if (now != null && askedNow == 0) faults.add(now + " has no answer that is due by it");
        askedNow = 0;
    }

    void is(long got, long want) {
        asked++;
        askedNow++;
        if (got != want) faults.add(now + ", " + line() + ": answered " + got + ", due is " + want);
    }

    /** All the answers got are the one that is due. */
    void all(long want, long... got) {
        for (long one : got) is(one, want);
    }

    /** Answers in a row, to be told what they are to be. */
    Answers got(long... answers) {
        return new Answers(answers);
    }

    final class Answers {
        private final long[] answers;

        private Answers(long[] answers) {
            this.answers = answers;
        }

        void are(long... due) {
            if (answers.length != due.length) faults.add(line() + ": so many answers are not due");
            for (int i = 0; i < answers.length && i < due.length; i++) is(answers[i], due[i]);
        }
    }

    private static String line() {
        return StackWalker.getInstance()
            .walk(frames -> frames.filter(f -> !f.getClassName().startsWith("Sentences")).findFirst())
            .map(f -> f.getFileName() + ":" + f.getLineNumber()).orElse("");
    }

    void end() {
        endOfSentence();
        texts.forEach((section, text) -> {
            for (String lacking : unnamed(text, named.get(section))) faults.add(section + ": no test names \"" + lacking + "\"");
        });
        for (String fault : faults) System.out.println(fault);
        System.out.println("EdgesTest: " + sentences + " sentences, " + asked + " answers, " + faults.size() + " not as due");
        if (!faults.isEmpty()) System.exit(1);
    }

    /** The parts of a text that no test has named, but for those without letters and digits. */
    private static List<String> unnamed(String text, BitSet named) {
        List<String> parts = new ArrayList<>();
        for (int from = named.nextClearBit(0); from < text.length();) {
            int to = named.nextSetBit(from);
            if (to < 0) to = text.length();
            String part = text.substring(from, to);
            if (part.matches("(?s).*[A-Za-z0-9].*")) parts.add(part.trim());
            from = named.nextClearBit(to);
        }
        return parts;
    }
}
