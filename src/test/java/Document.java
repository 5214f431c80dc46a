import java.io.IOException;
import java.nio.file.Files;
import java.nio.file.Path;
import java.util.ArrayList;
import java.util.BitSet;
import java.util.List;
import java.util.regex.Matcher;
import java.util.regex.Pattern;

/** ../shared/DOC.md by promises, and which of its words a test quotes; 0 is all that stands ahead of promise 1. */
final class Document {
    static final int PROMISES = 49;
    private static final Pattern HEAD = Pattern.compile("(?m)^## (Promise (\\d+): .*|Not promised)$");

    private final String[] texts = new String[PROMISES + 1];
    private final BitSet[] quoted = new BitSet[PROMISES + 1];

    Document(Path path) throws IOException {
        String all = Files.readString(path);
        Matcher head = HEAD.matcher(all);
        int promise = 0;
        int begun = 0;
        while (head.find()) {
            lay(promise, all.substring(begun, head.start()));
            promise = head.group(2) == null ? PROMISES + 1 : Integer.parseInt(head.group(2));
            begun = head.end();
        }
    }

    private void lay(int promise, String text) {
        // the signature ahead of a promise's first sentence is no sentence
        texts[promise] = text.replaceAll("\\s+", " ").trim().replaceFirst("^`[^`]*`: ", "");
        quoted[promise] = new BitSet();
    }

    /** Whether the words stand there, once. */
    boolean quote(int promise, String words) {
        String text = texts[promise];
        int at = text.indexOf(words);
        if (at < 0 || text.indexOf(words, at + 1) >= 0) {
            return false;
        }
        quoted[promise].set(at, at + words.length());
        return true;
    }

    /** Sentences of a promise of which some word is in no quote. */
    List<String> left(int promise) {
        List<String> left = new ArrayList<>();
        int at = 0;
        for (String sentence : texts[promise].split("(?<=[^ .][.;:]) ")) {
            if (!isQuoted(promise, at, sentence)) {
                left.add(sentence);
            }
            at += sentence.length() + 1;
        }
        return left;
    }

    private boolean isQuoted(int promise, int at, String sentence) {
        for (int i = 0; i < sentence.length(); i++) {
            if (Character.isLetterOrDigit(sentence.charAt(i)) && !quoted[promise].get(at + i)) {
                return false;
            }
        }
        return true;
    }
}
