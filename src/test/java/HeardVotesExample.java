import java.io.ByteArrayOutputStream;
import java.io.IOException;
import java.io.PrintStream;
import java.nio.charset.StandardCharsets;
import java.nio.file.Files;
import java.nio.file.Path;
import java.util.List;

/** README's example: that it stands there as it stands here, and prints what README says. */
public final class HeardVotesExample {
    private static final Path README = Path.of("README.md");
    private static final Path SOURCE = Path.of("src/test/java/HeardVotesExample.java");
    private static final String BEGIN = "    // README's example begins";
    private static final String END = "    // README's example ends";

    private static int wrong = 0;

    private HeardVotesExample() {
    }

    public static void main(String[] args) throws IOException {
        String readme = Files.readString(README);
        due("the example", block(readme, "```java\n"), example());
        due("what it prints", block(readme, "prints\n\n```text\n"), printed());
        System.out.println(wrong == 0 ? "README's example does what README says" : "README's example is another");
        if (wrong != 0) {
            System.exit(1);
        }
    }

    private static void due(String what, String told, String found) {
        if (told.isEmpty() || !told.equals(found)) {
            wrong++;
            System.out.println(what + ", in README:\n" + told + "found:\n" + found);
        }
    }

    /** What stands between the opening of a block and its end; nothing if there is no such block. */
    private static String block(String readme, String opening) {
        int from = readme.indexOf(opening);
        int to = from < 0 ? -1 : readme.indexOf("```", from + opening.length());
        return to < 0 ? "" : readme.substring(from + opening.length(), to);
    }

    private static String example() throws IOException {
        List<String> lines = Files.readAllLines(SOURCE);
        StringBuilder all = new StringBuilder();
        for (String line : lines.subList(lines.indexOf(BEGIN) + 1, lines.indexOf(END))) {
            all.append(line.startsWith("    ") ? line.substring(4) : line).append('\n');
        }
        return all.toString();
    }

    private static String printed() {
        PrintStream before = System.out;
        ByteArrayOutputStream bytes = new ByteArrayOutputStream();
        System.setOut(new PrintStream(bytes, true, StandardCharsets.ISO_8859_1));
        show();
        System.setOut(before);
        return bytes.toString(StandardCharsets.ISO_8859_1).replace(System.lineSeparator(), "\n");
    }

    // README's example begins
    static void show() {
        HeardVotes x = new HeardVotes();
        int hearings = tell(x, "x weight 2:the 0 cat 9 sat 20;y weight 1:the 1 bat 11 sat 21;"
                + "z weight 1:cat 9 sat 20 down 30");
        int costs = x.joinAll(0);                       // in the order of their numbers
        System.out.println(hearings + " hearings, costs " + costs + ": " + written(x));
        for (int s = 0; s < x.about(3); s++) {          // about(3): how many slots
            System.out.println("slot " + s + ": time " + x.slot(s, 2) + ", choices " + x.slot(s, 1)
                    + ", doubt " + x.doubt(s, 0) + "/" + x.doubt(s, 1));
        }
        System.out.println("y is " + x.errors(1) + " words from it; without x, " + x.without(0) + " others");
        x.weigh();                                      // weights by who was right
        System.out.println("weights " + x.hearing(0, 0) + " " + x.hearing(1, 0) + " " + x.hearing(2, 0)
                + ": " + written(x));
        x.undo();                                       // as they were told
        x.share(0);                                     // who has nothing there has no vote
        System.out.println("share 0: " + written(x));
        if (x.join(0) == HeardVotes.NONE) {
            System.out.println("trouble " + x.trouble());
        }
        if (tell(x, "x weight 100:the 0") == HeardVotes.NONE) {
            System.out.println("trouble " + x.trouble() + ", fault " + x.fault() + " at byte " + x.where());
        }
    }

    /** Feeds a text, twenty bytes a call, and tells it. */
    static int tell(HeardVotes x, String text) {
        for (int k = 0; k < text.length(); k += 20) {
            x.feed(four(text, k), four(text, k + 4), four(text, k + 8), four(text, k + 12), four(text, k + 16));
        }
        return x.text(text.length());
    }

    /** Four bytes as one number, the first the highest; blanks behind the text. */
    static int four(String text, int from) {
        int number = 0;
        for (int k = from; k < from + 4; k++) {
            number = number << 8 | (k < text.length() ? text.charAt(k) : ' ');
        }
        return number;
    }

    static String written(HeardVotes x) {
        StringBuilder bytes = new StringBuilder();
        int size = x.write();
        for (int k = 0; k < size; k++) {
            bytes.append((char) x.octet(k));
        }
        return bytes.toString();
    }
    // README's example ends
}
