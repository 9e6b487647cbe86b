import java.io.IOException;
import java.lang.reflect.Constructor;
import java.lang.reflect.Field;
import java.lang.reflect.Method;
import java.lang.reflect.Modifier;
import java.nio.file.Files;
import java.nio.file.Path;
import java.util.ArrayList;
import java.util.List;
import java.util.TreeSet;
import java.util.regex.Matcher;
import java.util.regex.Pattern;

/** The public face as the document has it, and the rules of LANGUAGE.md that can be looked up. */
public final class FaceTest {
    private static final Due DUE = new Due();

    public static void main(String[] args) throws IOException {
        constants();
        face();
        classesInside();
        source();
        DUE.end("FaceTest");
    }

    private static void constants() {
        DUE.is(WritHouse.BAD, -1);
        DUE.is(WritHouse.FULL, -2);
        DUE.is(WritHouse.NONE, -3);
        DUE.is(WritHouse.STATE, -4);
    }

    private static void same(TreeSet<String> ours, TreeSet<String> due) {
        for (String s : ours) if (!due.contains(s)) System.out.println("not in the document: " + s);
        for (String s : due) if (!ours.contains(s)) System.out.println("lacking: " + s);
        DUE.is(ours.equals(due) ? 1 : 0, 1);
    }

    private static void face() throws IOException {
        TreeSet<String> due = new TreeSet<>();
        Matcher m = Pattern.compile("    public int (\\w+)\\(([^)]*)\\);").matcher(Files.readString(Path.of("../shared/DOC.md")));
        while (m.find()) due.add("int " + m.group(1) + "(" + m.group(2).replaceAll(" \\w+(,|$)", "$1").replace(" ", "") + ")");
        DUE.is(due.size(), 62);
        TreeSet<String> ours = new TreeSet<>();
        for (Method method : WritHouse.class.getDeclaredMethods()) {
            if (Modifier.isPrivate(method.getModifiers()) || method.isSynthetic()) continue;
            List<String> types = new ArrayList<>();
            for (Class<?> type : method.getParameterTypes()) types.add(type.getName());
            DUE.is(method.getModifiers(), Modifier.PUBLIC);
            ours.add(method.getReturnType().getName() + " " + method.getName() + "(" + String.join(",", types) + ")");
        }
        same(ours, due);

        TreeSet<String> fields = new TreeSet<>();
        for (Field f : WritHouse.class.getDeclaredFields()) {
            if (!Modifier.isPrivate(f.getModifiers())) fields.add(Modifier.toString(f.getModifiers()) + " " + f.getType() + " " + f.getName());
        }
        TreeSet<String> constants = new TreeSet<>();
        for (String name : new String[] {"BAD", "FULL", "NONE", "STATE"}) constants.add("public static final int " + name);
        same(fields, constants);

        DUE.is(WritHouse.class.getModifiers(), Modifier.PUBLIC | Modifier.FINAL);
        Constructor<?>[] constructors = WritHouse.class.getDeclaredConstructors();
        DUE.is(constructors.length, 1);
        DUE.is(constructors[0].getModifiers(), Modifier.PUBLIC);
        DUE.is(constructors[0].getParameterCount(), 0);
    }

    private static void classesInside() {
        TreeSet<String> publicNames = new TreeSet<>();
        for (Method method : WritHouse.class.getMethods()) {
            if (method.getDeclaringClass() == WritHouse.class) publicNames.add(method.getName());
        }
        List<Class<?>> classes = new ArrayList<>(List.of(WritHouse.class));
        for (int i = 0; i < classes.size(); i++) classes.addAll(List.of(classes.get(i).getDeclaredClasses()));
        DUE.is(classes.size() <= 12 ? 1 : 0, 1);
        for (Class<?> c : classes) {
            int fields = 0;
            for (Field f : c.getDeclaredFields()) if (!Modifier.isStatic(f.getModifiers())) fields++;
            DUE.is(fields <= 20 ? 1 : 0, 1);
            for (Field f : c.getDeclaredFields()) if (Modifier.isStatic(f.getModifiers())) DUE.is(Modifier.isFinal(f.getModifiers()) ? 1 : 0, 1);
            for (Method method : c.getDeclaredMethods()) {
                DUE.is(method.getParameterCount() <= 7 ? 1 : 0, 1);
                boolean takesName = publicNames.contains(method.getName()) && !(c == WritHouse.class && Modifier.isPublic(method.getModifiers()));
                if (takesName) System.out.println(c + " has a method with a name of the face: " + method.getName());
                DUE.is(takesName ? 1 : 0, 0);
            }
            if (c == WritHouse.class) continue;
            DUE.is(Modifier.isStatic(c.getModifiers()) ? 1 : 0, 1);
            DUE.is(Modifier.isPublic(c.getModifiers()) || Modifier.isProtected(c.getModifiers()) ? 1 : 0, 0);
        }
    }

    private static void source() throws IOException {
        String text = Files.readString(Path.of("src/main/java/WritHouse.java"));
        String code = text.replaceAll("(?s)/\\*.*?\\*/", "").replaceAll("//.*", "").replaceAll("\"[^\"\n]*\"", "\"\"");
        String[] ruledOut = {"throws?\\b", "try\\b", "catch\\b", "synchronized\\b", "assert\\b", "package\\b", "protected\\b",
            "volatile\\b", "native\\b", "var\\b", "Object\\b", "\\w*Exception\\b", "\\w*Exact\\(", "(import|System|Arrays|Math)\\b(?! java\\.util\\.Arrays;"
            + "|\\.arraycopy\\(|\\.fill\\(|\\.min\\(|\\.max\\(|\\.floorMod\\(|;)"};
        for (String word : ruledOut) {
            Matcher m = Pattern.compile("\\b" + word).matcher(code);
            while (m.find()) {
                System.out.println("in the source: " + m.group());
                DUE.is(m.start(), -1);
            }
        }
        DUE.is(code.contains("->") || code.contains("::") ? 1 : 0, 0);
        for (int i = 0; i < text.length(); i++) if (text.charAt(i) > 126) DUE.is(i, -1);
        methodsAreShort(text.split("\n"));
        onlyConstructorsMake(code.split("\n"));
    }

    private static void methodsAreShort(String[] lines) {
        int begin = -1, methods = 0;
        for (int i = 0; i < lines.length; i++) {
            if (lines[i].matches("( {4}| {8})(\\w+ )*[\\w\\[\\]]+ ?\\w*\\(.*\\) \\{")) begin = i;
            if (begin < 0 || !lines[i].matches("( {4}| {8})\\}")) continue;
            methods++;
            if (i - begin > 60) System.out.println("long: " + lines[begin]);
            DUE.is(i - begin <= 60 ? 1 : 0, 1);
            begin = -1;
        }
        DUE.is(methods > 62 ? 1 : 0, 1);
    }

    /** All calls of a run live in one room, so objects and rows are made with the object, and none by a call. */
    private static void onlyConstructorsMake(String[] lines) {
        boolean isInConstructor = false;
        int made = 0;
        for (String line : lines) {
            if (line.matches(" {4}public WritHouse\\(.*\\{| {8}[A-Z]\\w*\\(.*\\) \\{")) isInConstructor = true;
            if (line.matches(" {4}\\}| {8}\\}")) isInConstructor = false;
            if (!line.contains("new ")) continue;
            made++;
            boolean isField = line.matches(" {8}(private )?final [\\w\\[\\]]+ \\w+ = new .*;");
            if (!isField && !isInConstructor) System.out.println("made by a call: " + line.trim());
            DUE.is(isField || isInConstructor ? 1 : 0, 1);
        }
        DUE.is(made > 20 ? 1 : 0, 1);
    }
}
