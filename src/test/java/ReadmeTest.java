import java.io.IOException;
import java.nio.file.Files;
import java.nio.file.Path;
import java.util.ArrayList;
import java.util.LinkedHashSet;
import java.util.List;
import java.util.Map;
import java.util.TreeMap;
import java.util.TreeSet;
import java.util.regex.Matcher;
import java.util.regex.Pattern;

/** README.md: its example answers as it tells, and each call has a row that names its refusals in their order. */
public final class ReadmeTest {
    private static final Due DUE = new Due();
    private static final Pattern REFUSAL = Pattern.compile("\\b(BAD|FULL|NONE|STATE)\\b|(?<![\\d\\w])-(9|1[1-5])\\b");

    public static void main(String[] args) throws IOException {
        String readme = Files.readString(Path.of("README.md"));
        String doc = Files.readString(Path.of("../shared/DOC.md"));
        example(readme);
        rows(readme, doc);
        tests(readme);
        DUE.end("ReadmeTest");
    }

    private static void example(String readme) {
        WritHouse house = new WritHouse();
        int clerk = house.person(0);
        told(readme, "int clerk = house.person(0);", clerk, 0);
        told(readme, "house.hold(clerk, 2, 0, 3599);", house.hold(clerk, 2, 0, 3599), 1);
        String text = "kind writ; say 7 person; seals 2; fee 30;";
        DUE.is(readme.contains("feed(house, \"" + text + "\");") ? 1 : 0, 1);
        Due.feed(house, text);
        int form = house.read(0);
        told(readme, "int form = house.read(0);", form, 0);
        int petition = house.petition(clerk, 0);
        told(readme, "int petition = house.petition(clerk, 0);", petition, 0);
        int letter = house.letter(clerk, form, petition);
        told(readme, "int letter = house.letter(clerk, form, petition);", letter, 0);
        told(readme, "house.isVoid(letter);", house.isVoid(letter), 2);
        told(readme, "house.seal(letter, 0);", house.seal(letter, 0), -4);
        told(readme, "house.fill(letter, 1, clerk);", house.fill(letter, 1, clerk), 1);
        told(readme, "house.seal(letter, 0);", house.seal(letter, 0), 1);
        told(readme, "house.returns(letter);", house.returns(letter), 89);
    }

    private static void told(String readme, String call, int got, int due) {
        DUE.is(got, due);
        boolean isThere = Pattern.compile(Pattern.quote(call) + " +// " + due + "\\b").matcher(readme).find();
        if (!isThere) System.out.println("README.md does not tell: " + call + " // " + due);
        DUE.is(isThere ? 1 : 0, 1);
    }

    private static void rows(String readme, String doc) {
        Map<String, String> promises = promises(doc);
        Matcher m = Pattern.compile("(?m)^\\| `((\\w+)\\(.*?\\))` \\| (.*) \\|(.*)\\|$").matcher(readme);
        TreeSet<String> ours = new TreeSet<>();
        while (m.find()) {
            ours.add(m.group(1));
            List<String> due = refusals(promises.getOrDefault(m.group(2), ""));
            // a NONE that one thing asked for may answer is told beside that thing
            if (m.group(3).contains("`NONE`")) due.remove("NONE");
            // the Terms tell this one, not the promise
            if (m.group(2).equals("act")) due.add("-15");
            List<String> got = refusals(m.group(4));
            if (!got.equals(due)) System.out.println(m.group(1) + " is refused by " + due + ", README.md tells " + got);
            DUE.is(got.equals(due) ? 1 : 0, 1);
        }
        TreeSet<String> face = face(doc);
        if (!ours.equals(face)) System.out.println("README.md has rows for " + ours + ", the face has " + face);
        DUE.is(face.size(), 62);
        DUE.is(ours.equals(face) ? 1 : 0, 1);
    }

    private static List<String> refusals(String text) {
        LinkedHashSet<String> found = new LinkedHashSet<>();
        Matcher m = REFUSAL.matcher(text);
        while (m.find()) found.add(m.group());
        return new ArrayList<>(found);
    }

    private static Map<String, String> promises(String doc) {
        Map<String, String> promises = new TreeMap<>();
        Matcher m = Pattern.compile("## Promise \\d+: (\\w+)\\s+`[^`]*`: (.*)").matcher(doc);
        while (m.find()) promises.put(m.group(1), m.group(2));
        return promises;
    }

    private static TreeSet<String> face(String doc) {
        TreeSet<String> face = new TreeSet<>();
        Matcher m = Pattern.compile("    public int (\\w+)\\(([^)]*)\\);").matcher(doc);
        while (m.find()) face.add(m.group(1) + "(" + m.group(2).replaceAll("(int|long|boolean) ", "") + ")");
        return face;
    }

    /** Each test of the project has a row. */
    private static void tests(String readme) throws IOException {
        try (var files = Files.list(Path.of("src/test/java"))) {
            for (Path file : (Iterable<Path>) files::iterator) {
                String name = file.getFileName().toString().replace(".java", "");
                if (!name.endsWith("Test")) continue;
                if (!readme.contains("| `" + name + "` |")) System.out.println("README.md has no row for " + name);
                DUE.is(readme.contains("| `" + name + "` |") ? 1 : 0, 1);
            }
        }
    }
}
