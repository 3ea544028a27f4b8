import java.io.IOException;
import java.nio.file.Files;
import java.nio.file.Path;
import java.util.BitSet;
import java.util.List;
import java.util.regex.Matcher;
import java.util.regex.Pattern;
import java.util.stream.Collectors;
import java.util.stream.Stream;

/** Every word of "What it is", "Terms" and the promises stands in a Due.says of a test, and those are the document's. */
public final class SentencesTest {
    private static final Pattern SECTION = Pattern.compile("## (What it is|Terms|Promise \\d+: .*)\\n");
    private static final Pattern SAYS = Pattern.compile("Due\\.says\\(((?:\\s*\"[^\"]*\"\\s*\\+?)+)\\)");
    private static final Pattern TEXT = Pattern.compile("\"([^\"]*)\"");
    private static final Pattern SIGNATURE = Pattern.compile("`[^`]*\\([^`]*\\)`:");

    public static void main(String[] args) throws IOException {
        String document = Files.readString(Path.of("../shared/DOC.md"));
        List<String> said = said();
        for (String words : said) {
            Due.yes("it stands in the document: " + words, document.contains(words));
        }
        int sections = 0;
        for (String section : document.split("(?m)^(?=## )")) {
            if (SECTION.matcher(section).lookingAt()) {
                sections++;
                isSaid(section, said);
            }
        }
        Due.is("sections", sections, 13);
        Due.finish();
    }

    private static List<String> said() throws IOException {
        try (Stream<Path> files = Files.list(Path.of("src/test/java"))) {
            StringBuilder all = new StringBuilder();
            for (Path file : files.toList()) {
                all.append(Files.readString(file));
            }
            return SAYS.matcher(all).results().map(says -> joined(says.group(1))).distinct().toList();
        }
    }

    private static String joined(String literals) {
        return TEXT.matcher(literals).results().map(text -> text.group(1)).collect(Collectors.joining());
    }

    /** FaceTest has the signatures, so they are left out here. */
    private static void isSaid(String section, List<String> said) {
        String body = SIGNATURE.matcher(SECTION.matcher(section).replaceFirst("")).replaceFirst("");
        BitSet covered = new BitSet();
        for (String words : said) {
            for (int at = body.indexOf(words); at >= 0; at = body.indexOf(words, at + 1)) {
                covered.set(at, at + words.length());
            }
        }
        Matcher word = Pattern.compile("[\\w*+-]+").matcher(body);
        while (word.find()) {
            boolean isIn = covered.nextClearBit(word.start()) >= word.end();
            Due.yes("'" + word.group() + "' behind '" + before(body, word.start()) + "' is in a Due.says", isIn);
        }
    }

    private static String before(String body, int at) {
        return body.substring(Math.max(0, at - 30), at).replace('\n', ' ');
    }
}
