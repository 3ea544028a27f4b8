import java.io.IOException;
import java.lang.reflect.Method;
import java.lang.reflect.Modifier;
import java.net.URL;
import java.net.URLClassLoader;
import java.nio.file.Files;
import java.nio.file.Path;
import java.util.List;
import java.util.function.BiConsumer;
import java.util.regex.Matcher;
import java.util.regex.Pattern;
import java.util.stream.Stream;
import javax.tools.JavaCompiler;
import javax.tools.ToolProvider;

/** README.md: each call that it shows is run, each call of the face is shown, and its quotes are the document's words. */
public final class ReadmeTest {
    private static final Path README = Path.of("README.md");
    private static final Path DOCUMENT = Path.of("../shared/DOC.md");
    /** A call, and behind it the answer, then a colon and why if that is told. */
    private static final Pattern CALL = Pattern.compile("\\s*(\\w+\\.(\\w+)\\(.*\\));\\s*// (.+?)(: .*)?");
    private static final Pattern NO_CALL =
        Pattern.compile("|\\s*\\}|\\s*for \\(.*\\) \\{|BlockVault \\w+ = new BlockVault\\(-?\\d+\\);");

    public static void main(String[] args) throws IOException, ReflectiveOperationException {
        List<String> lines = Files.readAllLines(README);
        everyCallIsShown(lines);
        theCallsAreRun(lines);
        quotesAreTheDocuments(lines);
        everyPromiseIsQuoted(lines);
        Due.finish();
    }

    private static void everyCallIsShown(List<String> lines) {
        for (Method method : BlockVault.class.getDeclaredMethods()) {
            if (Modifier.isPublic(method.getModifiers())) {
                String name = method.getName();
                Due.yes(name + " is shown with an answer", lines.stream().anyMatch(line -> shows(line, name)));
            }
        }
    }

    private static boolean shows(String line, String name) {
        Matcher call = CALL.matcher(line);
        return call.matches() && call.group(2).equals(name);
    }

    private static void theCallsAreRun(List<String> lines) throws IOException, ReflectiveOperationException {
        Path folder = Files.createTempDirectory("readme");
        try {
            Path source = folder.resolve("ReadmeCalls.java");
            Files.writeString(source, program(lines));
            JavaCompiler javac = ToolProvider.getSystemJavaCompiler();
            String classes = System.getProperty("java.class.path");
            int code = javac.run(null, null, null, "-cp", classes, "-d", folder.toString(), source.toString());
            Due.is("javac of README.md's calls", code, 0);
            if (code == 0) {
                runIn(folder);
            }
        } finally {
            remove(folder);
        }
    }

    private static void runIn(Path folder) throws IOException, ReflectiveOperationException {
        BiConsumer<String, Object[]> due = (where, answers) -> Due.same(where, answers[0], answers[1]);
        URL[] places = {folder.toUri().toURL()};
        try (URLClassLoader loader = new URLClassLoader(places, ReadmeTest.class.getClassLoader())) {
            loader.loadClass("ReadmeCalls").getMethod("run", BiConsumer.class).invoke(null, due);
        }
    }

    /** Each block of Java is a block of one method, its calls handed over with the answers that stand behind them. */
    private static String program(List<String> lines) {
        StringBuilder text = new StringBuilder("public final class ReadmeCalls {\n");
        text.append("static final int NONE = BlockVault.NONE;\n");
        text.append("public static void run(java.util.function.BiConsumer<String, Object[]> due) {\n");
        boolean inJava = false;
        for (int i = 0; i < lines.size(); i++) {
            String line = lines.get(i);
            if (line.startsWith("```")) {
                text.append(line.equals("```java") ? "{\n" : inJava ? "}\n" : "");
                inJava = line.equals("```java");
            } else if (inJava) {
                text.append(statement(i + 1, line)).append('\n');
            }
        }
        return text.append("}\n}\n").toString();
    }

    private static String statement(int number, String line) {
        Matcher call = CALL.matcher(line);
        if (call.matches()) {
            String where = "README.md, line " + number + ": " + call.group(1);
            return "due.accept(\"" + where + "\", new Object[] {" + call.group(1) + ", " + call.group(3) + "});";
        }
        Due.yes("README.md, line " + number + ": it is a call with its answer", NO_CALL.matcher(line).matches());
        return line;
    }

    private static void remove(Path folder) throws IOException {
        try (Stream<Path> files = Files.list(folder)) {
            for (Path file : files.toList()) {
                Files.delete(file);
            }
        }
        Files.delete(folder);
    }

    private static void quotesAreTheDocuments(List<String> lines) throws IOException {
        String document = Files.readString(DOCUMENT);
        for (String quote : quotes(lines)) {
            Due.yes("it stands in the document: " + quote, document.contains(quote));
        }
    }

    private static void everyPromiseIsQuoted(List<String> lines) throws IOException {
        List<String> quotes = quotes(lines);
        Matcher promise = Pattern.compile("## Promise (\\d+): .*\\n\\n(.*)\\n").matcher(Files.readString(DOCUMENT));
        int promises = 0;
        while (promise.find()) {
            promises++;
            Due.yes("promise " + promise.group(1) + " is quoted", quotes.contains(promise.group(2)));
        }
        Due.is("promises in the document", promises, 11);
    }

    /** The quotes, each without its line breaks. */
    private static List<String> quotes(List<String> lines) {
        String marked = String.join("\n", lines) + "\n";
        return Pattern.compile("(?m)(^> .*\\n)+").matcher(marked).results()
            .map(quote -> quote.group().substring(2).strip().replace("\n> ", " ")).toList();
    }
}
