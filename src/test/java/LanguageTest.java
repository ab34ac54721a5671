import com.sun.management.ThreadMXBean;
import java.io.IOException;
import java.lang.management.ManagementFactory;
import java.nio.charset.StandardCharsets;
import java.nio.file.Files;
import java.nio.file.Path;
import java.util.Set;
import java.util.regex.Matcher;
import java.util.regex.Pattern;

/** The rules of LANGUAGE.md that a plain look at the source tells, and that calls make no objects. */
public final class LanguageTest {
    private static final Set<String> LIBRARY = Set.of("Math.max", "Integer.bitCount", "System.arraycopy");
    private static final Set<String> THROWN = Set.of(
            "IllegalStateException", "IllegalArgumentException", "IndexOutOfBoundsException");
    private static final String[] RULED_OUT = {"\\bimport\\b", "\\bpackage\\b", "\\bcatch\\b", "\\bfinally\\b", "\\btry\\b",
        "\\bassert\\b", "\\bsynchronized\\b", "->", "::", "\\bDouble\\b", "\\bObject\\b", "static \\{", "\\bequals\\(",
        "hashCode", "toString", "\\bprotected\\b", "\\binstanceof\\b", "\\bfloat\\b", "\\bwhile \\(true\\)", "for \\(;;\\)"};

    public static void main(String[] args) throws IOException {
        byte[] bytes = Files.readAllBytes(Path.of("src/main/java/PileTickets.java"));
        String source = new String(bytes, StandardCharsets.ISO_8859_1);
        for (byte sign : bytes) {
            Check.due("a sign of the source", sign == '\n' || sign >= 32 && sign < 127 ? 0 : sign, 0);
        }
        String code = source.replaceAll("(?s)/\\*.*?\\*/", "").replaceAll("//[^\n]*", "");
        for (String pattern : RULED_OUT) {
            Check.due("matches of " + pattern, matches(pattern, code), 0);
        }
        libraryIsListed(code);
        methodsAreShort(source);
        Check.due("classes of the file, at most 12", Math.max(12, matches("\\bclass \\w", code)), 12);
        callsMakeNoObjects();
        Check.end();
    }

    private static int matches(String pattern, String code) {
        return (int) Pattern.compile(pattern).matcher(code).results().count();
    }

    private static void libraryIsListed(String code) {
        Matcher calls = Pattern.compile("\\b[A-Z][A-Za-z]+\\.[a-z]\\w*(?=\\()").matcher(code);
        while (calls.find()) {
            Check.due("listed: " + calls.group(), LIBRARY.contains(calls.group()) ? 1 : 0, 1);
        }
        Matcher thrown = Pattern.compile("throw ([^;]*);").matcher(code);
        while (thrown.find()) {
            Matcher whole = Pattern.compile("new (\\w+)\\(\"[^\"]*\"\\)").matcher(thrown.group(1));
            Check.due("listed: " + thrown.group(), whole.matches() && THROWN.contains(whole.group(1)) ? 1 : 0, 1);
        }
    }

    private static void methodsAreShort(String source) {
        int start = 0;
        String[] lines = source.split("\n");
        for (int line = 0; line < lines.length; line++) {
            // A method of a class begins and ends at four spaces, one of a class inside at eight.
            start = lines[line].matches("(    |        )[A-Za-z].*") ? line : start;
            boolean isEnd = lines[line].matches("        }") || lines[line].matches("    }");
            boolean isClass = lines[start].contains(" class ");
            Check.due("method too long at line " + (start + 1), isEnd && !isClass && line - start > 60 ? 1 : 0, 0);
        }
    }

    private static void callsMakeNoObjects() {
        ThreadMXBean threads = (ThreadMXBean) ManagementFactory.getThreadMXBean();
        PileTickets x = Scenes.fullShelves();
        x.handOut(100, 0);
        Scenes.type(x, "a1/1@1;b2/2@2;");
        long hash = 0;
        threads.getCurrentThreadAllocatedBytes();
        long before = threads.getCurrentThreadAllocatedBytes();
        for (int round = 0; round < 40; round++) {
            hash += x.takeIn(0, 1, 1, 1, false) + x.load(1) + x.pass(1) + x.handOut(110 + round, 0) + x.undo();
            hash += x.keep(0) + x.goBack(0) + x.firstError() + x.append('c') + x.digest();
        }
        long made = threads.getCurrentThreadAllocatedBytes() - before;
        Check.due("bytes made by 400 calls, hash " + hash, made > 10000 ? made : 0, 0);
    }
}
