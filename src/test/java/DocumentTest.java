import java.io.IOException;
import java.nio.file.Files;
import java.nio.file.Path;
import java.util.BitSet;
import java.util.List;
import java.util.Map;
import java.util.TreeMap;
import java.util.regex.Matcher;
import java.util.regex.Pattern;
import java.util.stream.Stream;

/**
 * The tests of the edges against ../shared/DOC.md: the first comment of each tells its promises and the sentences, as
 * they stand there; each promise has tests, and no sentence of the terms or of a promise is left out.
 */
public final class DocumentTest {
    private static final Path DOCUMENT = Path.of("../shared/DOC.md");
    private static final Path TESTS = Path.of("src/test/java");
    private static final int PROMISES = 32;
    private static final Pattern TEST = Pattern.compile(
            "(?:/\\*\\*((?:(?!\\*/).)*)\\*/\\s*)?static void (\\w+)\\(\\) \\{", Pattern.DOTALL);
    private static final Pattern FIRST_WORDS = Pattern.compile("Promises? (\\d+(?:(?:, | to )\\d+)*): (.*)");
    private static final Pattern SENTENCE = Pattern.compile("\"([^\"]+)\"");
    private static final Pattern PROMISE = Pattern.compile("## Promise (\\d+): \\w.*? `[^`]*`: (.*?)(?=## |$)");

    private final String document = folded(Files.readString(DOCUMENT).replaceAll("```(text)?", " "));
    /** By promise, which signs of the document its tests tell; 0: those of all. */
    private final Map<Integer, BitSet> told = new TreeMap<>();

    private DocumentTest() throws IOException {
    }

    public static void main(String[] args) throws IOException {
        DocumentTest test = new DocumentTest();
        for (int promise = 0; promise <= PROMISES; promise++) {
            test.told.put(promise, new BitSet());
        }
        for (Path file : edges()) {
            test.read(file);
        }
        test.eachPromiseIsTold();
        test.theTermsAreTold();
        Check.end();
    }

    private static List<Path> edges() throws IOException {
        try (Stream<Path> files = Files.list(TESTS)) {
            return files.filter(file -> file.toString().endsWith("EdgesTest.java")).sorted().toList();
        }
    }

    private static String folded(String text) {
        return text.replaceAll("\\s+", " ");
    }

    private void read(Path file) throws IOException {
        Matcher tests = TEST.matcher(Files.readString(file));
        while (tests.find()) {
            String name = file.getFileName() + ", " + tests.group(2) + "()";
            String comment = tests.group(1) == null ? "" : folded(tests.group(1).replaceAll("\n\\s*\\* ", " ")).trim();
            Matcher words = FIRST_WORDS.matcher(comment);
            Check.holds(name + " tells its promises first", words.matches() && tests.group(2).startsWith("promise"));
            if (words.matches()) {
                tell(name, promises(words.group(1)), words.group(2));
            }
        }
    }

    private static BitSet promises(String numbers) {
        BitSet promises = new BitSet();
        for (String part : numbers.split(", ")) {
            String[] ends = part.split(" to ");
            promises.set(Integer.parseInt(ends[0]), Integer.parseInt(ends[ends.length - 1]) + 1);
        }
        return promises;
    }

    private void tell(String name, BitSet promises, String words) {
        Check.holds(name + " tells promises of 1 to 32",
                promises.nextSetBit(0) > 0 && promises.length() <= PROMISES + 1);
        Matcher sentences = SENTENCE.matcher(words);
        Check.holds(name + " tells a sentence", sentences.find());
        sentences.reset();
        while (sentences.find()) {
            String sentence = sentences.group(1);
            Check.holds(name + " tells a sentence of the document: " + sentence, document.contains(sentence));
            promises.stream().forEach(promise -> mark(told.get(promise), sentence));
            mark(told.get(0), sentence);
        }
    }

    /** Wherever it stands, but for inside of words. */
    private void mark(BitSet signs, String sentence) {
        Matcher places = Pattern.compile("(?<!\\w)" + Pattern.quote(sentence) + "(?!\\w)").matcher(document);
        while (places.find()) {
            signs.set(places.start(), places.end());
        }
    }

    private void eachPromiseIsTold() {
        Matcher promises = PROMISE.matcher(document);
        int found = 0;
        while (promises.find()) {
            found++;
            int promise = Integer.parseInt(promises.group(1));
            allTold("promise " + promise, told.get(promise), promises.start(2), promises.end(2));
        }
        Check.due("promises in the document", found, PROMISES);
    }

    private void theTermsAreTold() {
        int from = document.indexOf("======== 1 ");
        int to = document.indexOf("Ahead of the calls");
        Check.holds("there are terms", from >= 0 && to > from);
        if (from >= 0 && to > from) {
            allTold("the terms", told.get(0), from, to);
        }
    }

    /** Signs that are no letters and no figures may be left out, and the numbers and names of the terms' parts. */
    private void allTold(String what, BitSet signs, int from, int to) {
        StringBuilder left = new StringBuilder();
        for (int at = from; at < to; at++) {
            left.append(signs.get(at) ? '\n' : document.charAt(at));
        }
        for (String piece : left.toString().split("\n+")) {
            boolean heading = piece.matches(" *======== [1-3] *| *======== SO THAT NOTHING IS READ TWO WAYS\\. *");
            Check.holds(what + " is told by a test: " + piece, heading || !piece.matches(".*[A-Za-z0-9].*"));
        }
    }
}
