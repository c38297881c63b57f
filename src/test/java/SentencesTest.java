import java.io.IOException;
import java.lang.reflect.Method;
import java.nio.file.DirectoryStream;
import java.nio.file.Files;
import java.nio.file.Path;
import java.util.ArrayList;
import java.util.List;

/**
 * Every sentence of the document, Terms and Promises 1 to 30, has a test that bears its words, and
 * the tests of a promise are named by its number.
 */
public final class SentencesTest {
    private static final Path DOCUMENT = Path.of("../shared/DOC.md");
    private static final int PROMISES = 30;
    private static final Check check = new Check();

    public static void main(String[] args) throws Exception {
        String document = Files.readString(DOCUMENT);
        List<Method> tests = allTests();
        for (int promise = 0; promise <= PROMISES; promise++) {
            wordsOf(promise, promise == 0 ? terms(document) : promise(document, promise), tests);
        }
        check.end();
    }

    private static List<Method> allTests() throws IOException, ClassNotFoundException {
        List<Method> tests = new ArrayList<>();
        try (DirectoryStream<Path> files = Files.newDirectoryStream(Path.of("src/test/java"), "*Test.java")) {
            for (Path file : files) {
                String name = file.getFileName().toString().replace(".java", "");
                tests.addAll(List.of(SentenceRunner.testsOf(Class.forName(name))));
            }
        }
        return tests;
    }

    private static void wordsOf(int promise, String text, List<Method> tests) {
        boolean[] borne = new boolean[text.length()];
        for (Method test : tests) {
            Sentence sentence = test.getAnnotation(Sentence.class);
            if (sentence.promise() != promise) continue;
            check.isTrue(test.getName() + " bears the words of the document", text.contains(sentence.words()));
            if (promise > 0) check.isTrue(test.getName() + " bears the number", test.getName().startsWith(String.format("promise%02d_", promise)));
            mark(borne, text, sentence.words());
        }
        StringBuilder rest = new StringBuilder();
        for (int i = 0; i < text.length(); i++) rest.append(borne[i] ? ' ' : text.charAt(i));
        String without = rest.toString().replaceAll("[^A-Za-z0-9]+", " ").trim();
        check.isTrue((promise == 0 ? "Terms" : "Promise " + promise) + ": words that no test bears: " + without, without.isEmpty());
    }

    private static void mark(boolean[] borne, String text, String words) {
        for (int at = text.indexOf(words); at >= 0; at = text.indexOf(words, at + 1)) {
            for (int i = 0; i < words.length(); i++) borne[at + i] = true;
        }
    }

    private static String between(String text, String from, String to) {
        int start = text.indexOf(from);
        int end = text.indexOf(to, start + from.length());
        check.isTrue("the document has " + from + " and " + to, start >= 0 && end > start);
        return start >= 0 && end > start ? text.substring(start + from.length(), end) : "";
    }

    private static String inOneLine(String text) {
        return text.replaceAll("(?m)^(```.*|Ahead of the calls .*)$", " ").replaceAll("=====+", " ").replaceAll("\\s+", " ").trim();
    }

    /** What is told ahead of the promises, but for the first sentence, which tells what the class is for, and the face. */
    private static String terms(String document) {
        String wish = "1 THE WISH:" + between(document, "1 THE WISH:", "## The public face");
        return inOneLine(wish + between(document, "## Terms", "## Promise 1:"));
    }

    private static String promise(String document, int number) {
        String next = number == PROMISES ? "## Not promised" : "## Promise " + (number + 1) + ":";
        String section = between(document, "## Promise " + number + ":", next);
        // the heading and the method itself are the face's
        return inOneLine(section.substring(section.indexOf("`: ") + 3));
    }
}
