import java.io.IOException;
import java.lang.reflect.Method;
import java.nio.file.Files;
import java.nio.file.Path;
import java.util.HashSet;
import java.util.Set;
import java.util.regex.Matcher;
import java.util.regex.Pattern;

/**
 * That each test quotes the document as it stands, and that each word of each promise, and of "Terms", is quoted by a
 * test: so no sentence is without one.
 */
public final class EverySentence {
    private static final Path DOCUMENT = Path.of("../shared/DOC.md");
    private static final int PROMISES = 50;
    private static final Class<?>[] TESTS = {TermSentences.class, CaseSentences.class, FollowsSentences.class, RightSentences.class,
        ChainSentences.class, TownSentences.class, MoodSentences.class, LawyerSentences.class, KeptSentences.class};
    private static int wrong = 0;

    private static void fail(String what) {
        wrong++;
        System.out.println(what);
    }

    private static String plain(String text) {
        return text.replaceAll("\\s+", " ").trim();
    }

    /** What stands behind "## Promise n: .." and the call's own line; 0: all that stands ahead of the promises. */
    private static String[] sections(String document) {
        String[] parts = document.split("\n## Promise ");
        String[] texts = new String[PROMISES + 1];
        texts[0] = plain(parts[0]);
        for (int i = 1; i < parts.length; i++) {
            String body = parts[i].split("\n## ")[0];
            Matcher m = Pattern.compile("(?s)(\\d+): [^\n]*\n+`[^`]*`: (.*)").matcher(body);
            if (m.matches()) {
                texts[Integer.parseInt(m.group(1))] = plain(m.group(2));
            }
        }
        return texts;
    }

    private static void markQuoted(String text, boolean[] quoted, String words, String test) {
        int at = text.indexOf(words);
        if (at < 0) {
            fail(test + " quotes what does not stand there: " + words);
        }
        while (at >= 0) {
            for (int i = at; i < at + words.length(); i++) {
                quoted[i] = true;
            }
            at = text.indexOf(words, at + 1);
        }
    }

    /** Words that no test quotes, but for marks between words. */
    private static void lookForGaps(String what, String text, boolean[] quoted, int from) {
        StringBuilder gap = new StringBuilder();
        for (int i = from; i <= text.length(); i++) {
            if (i < text.length() && !quoted[i]) {
                gap.append(text.charAt(i));
            } else {
                if (gap.toString().matches(".*[A-Za-z0-9].*")) {
                    fail(what + ": no test quotes \"" + gap + "\"");
                }
                gap.setLength(0);
            }
        }
    }

    /** "Terms" is to be quoted wholly; of what stands ahead of it only what a test chooses, and no layout of the page. */
    private static String withoutLayout(String terms) {
        return terms.replaceAll("```(text|java)?", "   ").replaceAll("(?<=\\s)[12]\\. (?=KINDS a|MOODS:)", "   ");
    }

    private static void compare(String document) {
        String[] texts = sections(document);
        texts[0] = plain(withoutLayout(texts[0]));
        boolean[][] quoted = new boolean[PROMISES + 1][];
        for (int n = 0; n <= PROMISES; n++) {
            if (texts[n] == null || texts[n].isEmpty()) {
                fail("promise " + n + " was not found in the document");
                return;
            }
            quoted[n] = new boolean[texts[n].length()];
        }
        Set<String> names = new HashSet<>();
        for (Class<?> tests : TESTS) {
            for (Method m : Bench.testsOf(tests)) {
                Says says = m.getAnnotation(Says.class);
                if (!names.add(tests.getName() + m.getName()) || says.promise() < 0 || says.promise() > PROMISES) {
                    fail(m.getName() + " is of no promise");
                    continue;
                }
                for (String words : says.words()) {
                    markQuoted(texts[says.promise()], quoted[says.promise()], plain(words), m.getName());
                }
            }
        }
        for (int n = 1; n <= PROMISES; n++) {
            lookForGaps("promise " + n, texts[n], quoted[n], 0);
        }
        int start = texts[0].indexOf("## Terms") + "## Terms".length();
        int end = texts[0].indexOf("Ahead of the calls");
        lookForGaps("Terms", texts[0].substring(0, end), quoted[0], start);
        System.out.println(names.size() + " tests quote the document, " + wrong + " faults");
    }

    public static void main(String[] args) throws IOException {
        compare(Files.readString(DOCUMENT));
        if (wrong != 0) {
            System.exit(1);
        }
    }
}
