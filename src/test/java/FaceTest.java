import java.lang.reflect.Constructor;
import java.lang.reflect.Field;
import java.lang.reflect.Method;
import java.lang.reflect.Modifier;
import java.nio.charset.StandardCharsets;
import java.nio.file.Files;
import java.nio.file.Path;
import java.util.Arrays;
import java.util.Set;
import java.util.TreeSet;
import java.util.regex.Matcher;
import java.util.regex.Pattern;

/** The public face, and those rules of LANGUAGE.md that can be seen from names and from the source. */
public final class FaceTest {
    private static final String FACE =
        "int state(int)|boolean bridge(int,int)|boolean set(int,int)|boolean step(int)|int feed(int,int,int,int,int)"
        + "|boolean end(int)|int text(int)|int fault(int)|int minutes(int)|int shoot()|int of(int,int)|int where(int,int)"
        + "|int stranger(int,int)|long covered(int)|int at(int,int,int)|int worth(int)|int shot(int,int)"
        + "|int book(int,int,int)|int waits()|int row(int)|int best(int)|int steps(int,int)|long laid(int)|int fewest(int)"
        + "|long never(int,int)|long most(int)|int middle(int,int)|long sure(int,int)|int exposed(int,int,int,int)"
        + "|long ghosts(int,int)|int nobody(int)|int copies(int,int)|int enough(int,int)|int hours(int,int,int)"
        + "|int judged(int,int)|int whenShot(int,int)|int stander(int)|int with(int,int)|int twos(int)|int two(int)"
        + "|boolean paste(int,int)|int picture(int)|boolean undo()|boolean image(boolean)|int look(int)";
    private static final Path SOURCE = Path.of("src/main/java/NobodyThere.java");

    private static final Due due = new Due("FaceTest");

    private FaceTest() {
    }

    public static void main(String[] args) throws Exception {
        face();
        inside();
        source();
        due.close();
    }

    private static String types(Class<?>[] all) {
        StringBuilder text = new StringBuilder();
        for (Class<?> one : all) {
            text.append(text.length() == 0 ? "" : ",").append(one.getSimpleName());
        }
        return text.toString();
    }

    private static void face() {
        due.part("rule 1");
        Class<?> c = NobodyThere.class;
        due.yes("public", Modifier.isPublic(c.getModifiers()));
        due.yes("final", Modifier.isFinal(c.getModifiers()));
        Set<String> wanted = new TreeSet<>(Arrays.asList(FACE.split("\\|")));
        due.same("46 promises less the constructor", wanted.size(), 45);
        Set<String> seen = new TreeSet<>();
        for (Method m : c.getDeclaredMethods()) {
            if (!Modifier.isPrivate(m.getModifiers())) {
                String text = m.getReturnType().getSimpleName() + " " + m.getName() + "(" + types(m.getParameterTypes()) + ")";
                due.yes("public and of the object: " + text,
                    Modifier.isPublic(m.getModifiers()) && !Modifier.isStatic(m.getModifiers()));
                seen.add(text);
            }
        }
        for (String text : wanted) {
            due.yes("there is " + text, seen.contains(text));
        }
        for (String text : seen) {
            due.yes("the document has " + text, wanted.contains(text));
        }
        Constructor<?>[] made = c.getDeclaredConstructors();
        due.same("one constructor", made.length, 1);
        due.same("without parameters", made[0].getParameterCount(), 0);
        due.yes("public", Modifier.isPublic(made[0].getModifiers()));
        for (Field f : c.getDeclaredFields()) {
            due.yes("field " + f.getName(), Modifier.isPrivate(f.getModifiers()) || f.getName().equals("NONE"));
        }
    }

    private static void inside() {
        due.part("rules 1, 2, 5, 11");
        Set<String> names = new TreeSet<>();
        for (String text : FACE.split("\\|")) {
            names.add(text.replaceAll("^\\w+ |\\(.*", ""));
        }
        Class<?>[] inner = NobodyThere.class.getDeclaredClasses();
        due.yes("some twelve classes", inner.length + 1 <= 12);
        for (Class<?> c : inner) {
            due.yes(c.getName() + " is static and not public",
                Modifier.isStatic(c.getModifiers()) && !Modifier.isPublic(c.getModifiers()));
            Class<?>[] deeper = c.getDeclaredClasses();
            due.same("no class inside " + c.getName(), deeper.length, 0);
            members(c, names, true);
        }
        members(NobodyThere.class, names, false);
    }

    private static void members(Class<?> c, Set<String> names, boolean isInner) {
        int fields = 0;
        for (Field f : c.getDeclaredFields()) {
            boolean isStatic = Modifier.isStatic(f.getModifiers());
            fields += isStatic ? 0 : 1;
            due.yes("static means final: " + f, !isStatic || Modifier.isFinal(f.getModifiers()));
        }
        due.yes("some twenty fields: " + c.getName(), fields <= 20);
        for (Method m : c.getDeclaredMethods()) {
            due.yes("seven parameters: " + m, m.getParameterCount() <= 7);
            boolean isOwn = isInner || Modifier.isPrivate(m.getModifiers());
            due.yes("no name of the face: " + m, !isOwn || !names.contains(m.getName()));
        }
    }

    private static void source() throws Exception {
        due.part("rules 2, 4, 6, 10, 11");
        String all = Files.readString(SOURCE, StandardCharsets.ISO_8859_1);
        for (int i = 0; i < all.length(); i++) {
            if (all.charAt(i) > 126 || all.charAt(i) < 32 && all.charAt(i) != '\n') {
                due.same("sign at " + i, all.charAt(i), 0);
            }
        }
        String code = all.replaceAll("(?s)/\\*.*?\\*/", "").replaceAll("//[^\n]*", "").replaceAll("\"[^\"]*\"", "\"\"");
        String[] never = {"\\bthrows?\\b", "\\btry\\b", "\\bcatch\\b", "\\bsynchronized\\b", "\\bassert\\b", "->", "::",
            "\\bpackage\\b", "\\bprotected\\b", "\\bExact\\b", "\\w+Exact\\b", "\\bSystem\\.(?!arraycopy)", "\\bThread\\b",
            "\\bRandom\\b", "\"\"\\s*\\+", "\\+\\s*\"\"", "\\bnew\\s+\\w+\\s*\\([^)]*\\)\\s*\\{", "\\bvar\\b", "\\byield\\b",
            "\\bString\\[", "\\[\\]\\[\\]\\[\\]", "\\bstatic\\s*\\{", "@"};
        for (String one : never) {
            Matcher m = Pattern.compile(one).matcher(code);
            due.yes("no " + one, !m.find());
        }
        Matcher imports = Pattern.compile("import ([^;]*);").matcher(code);
        while (imports.find()) {
            due.yes("import " + imports.group(1), imports.group(1).matches("java\\.util\\.(Arrays|ArrayList|List|Iterator)"));
        }
        Matcher library = Pattern.compile("\\b(Arrays|Math|Integer|Long|System)\\.(\\w+)").matcher(code);
        while (library.find()) {
            due.yes("library " + library.group(), library.group().matches(
                "Arrays\\.(fill|copyOf|copyOfRange)|Math\\.(max|min|abs)|(Integer|Long)\\.bitCount|System\\.arraycopy"));
        }
        methodLengths(code);
    }

    /** A method's line stands four or eight blanks deep and ends with a brace; so does the line that closes it. */
    private static void methodLengths(String code) {
        String[] lines = code.split("\n");
        for (int i = 0; i < lines.length; i++) {
            Matcher head = Pattern.compile("^( {4}| {8})\\w.*\\) \\{$").matcher(lines[i]);
            if (head.find()) {
                int end = i;
                while (end < lines.length && !lines[end].equals(head.group(1) + "}")) {
                    end++;
                }
                due.yes("some sixty lines: " + lines[i].trim(), end - i <= 60);
            }
        }
    }
}
