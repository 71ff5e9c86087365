import java.io.IOException;
import java.lang.reflect.Method;
import java.lang.reflect.Modifier;
import java.nio.charset.StandardCharsets;
import java.nio.file.Files;
import java.nio.file.Path;
import java.util.ArrayList;
import java.util.Comparator;
import java.util.List;
import java.util.regex.Matcher;
import java.util.regex.Pattern;
import java.util.stream.Stream;
import javax.tools.JavaCompiler;
import javax.tools.ToolProvider;

/** The examples of README.md are compiled as they stand there, and each call must have the answer told behind it. */
public final class ReadmeTest {
    private static final Path README = Path.of("README.md");
    private static final Pattern BLOCK = Pattern.compile("(?s)```java\n(.*?)```");
    private static final Pattern CALL = Pattern.compile("^((?:x\\.|tell\\().*\\));\\s+// (-?\\d+|true|false)(?:: .*)?$");

    private static final Due due = new Due("ReadmeTest");

    private ReadmeTest() {
    }

    public static void main(String[] args) throws Exception {
        String readme = Files.readString(README, StandardCharsets.UTF_8);
        StringBuilder members = new StringBuilder();
        StringBuilder body = new StringBuilder();
        Matcher block = BLOCK.matcher(readme);
        while (block.find()) {
            if (block.group(1).startsWith("static ")) {
                members.append(block.group(1));
            } else {
                body.append("{\n").append(withAnswers(block.group(1))).append("}\n");
            }
        }
        namesOfTheFace(body.toString());
        play("public final class Shown {\n" + members + "public static void play(java.util.List<String> seen) {\n" + body
            + "}\n}\n");
        due.close();
    }

    /** Each call's line becomes three entries: how it is written, what is told, what is answered. */
    private static String withAnswers(String block) {
        StringBuilder lines = new StringBuilder();
        for (String line : block.split("\n")) {
            Matcher call = CALL.matcher(line);
            if (call.matches()) {
                String written = call.group(1).replace("\"", "'");
                lines.append("seen.add(\"").append(written).append("\"); seen.add(\"").append(call.group(2));
                lines.append("\"); seen.add(String.valueOf(").append(call.group(1)).append("));\n");
            } else {
                due.yes("a call needs an answer: " + line, line.startsWith("NobodyThere x = new NobodyThere();"));
                lines.append(line).append('\n');
            }
        }
        return lines.toString();
    }

    private static void namesOfTheFace(String shown) {
        due.part("README.md shows each call");
        for (Method m : NobodyThere.class.getDeclaredMethods()) {
            if (Modifier.isPublic(m.getModifiers())) {
                due.yes(m.getName(), shown.contains("x." + m.getName() + "("));
            }
        }
    }

    private static void play(String source) throws Exception {
        due.part("README.md");
        JavaCompiler compiler = ToolProvider.getSystemJavaCompiler();
        due.yes("a compiler", compiler != null);
        Path room = Files.createTempDirectory("readme");
        try {
            Path file = Files.writeString(room.resolve("Shown.java"), source);
            int exit = compiler.run(null, null, null, "-cp", System.getProperty("java.class.path"), "-d", room.toString(),
                file.toString());
            due.same("compiling its examples", exit, 0);
            List<String> seen = new ArrayList<>();
            if (exit == 0) {
                try (java.net.URLClassLoader loader = new java.net.URLClassLoader(new java.net.URL[] {room.toUri().toURL()})) {
                    loader.loadClass("Shown").getMethod("play", List.class).invoke(null, seen);
                }
            }
            due.yes("it shows calls", seen.size() > 0);
            for (int i = 0; i + 2 < seen.size(); i += 3) {
                due.yes(seen.get(i) + " told as " + seen.get(i + 1) + " answered " + seen.get(i + 2) + ":",
                    seen.get(i + 1).equals(seen.get(i + 2)));
            }
        } finally {
            remove(room);
        }
    }

    private static void remove(Path room) throws IOException {
        try (Stream<Path> all = Files.walk(room)) {
            for (Path one : all.sorted(Comparator.reverseOrder()).toList()) {
                Files.delete(one);
            }
        }
    }
}
