import java.nio.charset.StandardCharsets;
import java.util.NoSuchElementException;

/** Each promise of the document by itself: ordinary inputs, the edges that it names, wrong inputs. */
public final class HeardVotesPromises {
    /** WORDS: the 0, cat 1, sat 2, bat 3, down 4. */
    private static final String CATS = "x weight 2: the 0 cat 9 sat 20;"
            + "y weight 1: the 0 bat 11 sat 20;"
            + "z weight 1: cat 10 sat 20 down 30";
    private static final String TWELVE = "a0b1c2d3e4f5g6h7i8j9k10l11";
    private static final int NONE = -1;
    private static final int BEYOND = -2;
    private static final int[] FAR_OUT = {Integer.MIN_VALUE, Integer.MAX_VALUE, -1000000, 1000000};

    private static int wrong = 0;
    private static int asked = 0;
    private static String promise = "";

    public static void main(String[] args) {
        newObject();
        feed();
        text();
        faultAndWhere();
        about();
        hearing();
        word();
        letter();
        far();
        between();
        costs();
        window();
        share();
        weight();
        join();
        joinAll();
        drop();
        weigh();
        undo();
        slot();
        at();
        choice();
        doubt();
        doubtful();
        heard();
        errors();
        cost();
        way();
        without();
        best();
        write();
        octet();
        size();
        trouble();
        System.out.println(asked + " answers looked at, " + wrong + " are not as due");
        if (wrong != 0) {
            System.exit(1);
        }
    }

    // ---- how it is asked

    private static void due(String call, long got, long want) {
        asked++;
        if (got != want) {
            wrong++;
            System.out.println("promise " + promise + ": " + call + " answered " + got + ", due is " + want);
        }
    }

    private static void due(String call, boolean got, boolean want) {
        due(call, got ? 1 : 0, want ? 1 : 0);
    }

    private static void refused(HeardVotes x, String call, int got, int trouble) {
        due(call, got, NONE);
        due("trouble() behind " + call, x.trouble(), trouble);
    }

    private static void refused(HeardVotes x, String call, boolean got, int trouble) {
        due(call, got, false);
        due("trouble() behind " + call, x.trouble(), trouble);
    }

    private static int put(HeardVotes x, String text) {
        byte[] bytes = text.getBytes(StandardCharsets.ISO_8859_1);
        for (int from = 0; from < bytes.length; from += 20) {
            int[] five = new int[5];
            for (int k = 0; k < 20; k++) {
                five[k / 4] = five[k / 4] << 8 | (from + k < bytes.length ? bytes[from + k] & 255 : 32);
            }
            x.feed(five[0], five[1], five[2], five[3], five[4]);
        }
        return bytes.length;
    }

    private static int tell(HeardVotes x, String text) {
        return x.text(put(x, text));
    }

    private static HeardVotes told(String text) {
        HeardVotes x = new HeardVotes();
        if (tell(x, text) < 1) {
            due("a text that is told: " + text, 0, 1);
        }
        return x;
    }

    private static HeardVotes joined(String text) {
        HeardVotes x = told(text);
        x.joinAll(0);
        return x;
    }

    private static String written(HeardVotes x) {
        StringBuilder all = new StringBuilder();
        int size = x.write();
        for (int k = 0; k < size; k++) {
            all.append((char) x.octet(k));
        }
        return all.toString();
    }

    private static void dueWritten(HeardVotes x, String want) {
        String got = written(x);
        asked++;
        if (!got.equals(want)) {
            wrong++;
            System.out.println("promise " + promise + ": written is \"" + got + "\", due is \"" + want + "\"");
        }
    }

    private static int octetOrNone(HeardVotes x, int k) {
        try {
            return x.octet(k);
        } catch (NoSuchElementException e) {
            return NONE;
        }
    }

    private static String way(HeardVotes x, int h) {
        StringBuilder steps = new StringBuilder();
        for (int k = 0; x.way(h, k) >= 0; k++) {
            steps.append(x.way(h, k));
        }
        return steps.toString();
    }

    private static void dueWay(HeardVotes x, int h, String want) {
        String got = way(x, h);
        asked++;
        if (!got.equals(want)) {
            wrong++;
            System.out.println("promise " + promise + ": the way of " + h + " is " + got + ", due is " + want);
        }
    }

    // ---- texts

    private static void newObject() {
        promise = "1";
        HeardVotes x = new HeardVotes();
        due("trouble()", x.trouble(), 0);
        due("where()", x.where(), NONE);
        due("fault()", x.fault(), 0);
        due("size()", x.size(), 0);
        due("octet(0)", octetOrNone(x, 0), NONE);
        refused(x, "about(0)", x.about(0), 1);
        refused(x, "weigh()", x.weigh(), 1);
        refused(x, "undo()", x.undo(), 1);
        refused(x, "write()", x.write(), 1);
        refused(x, "joinAll(0)", x.joinAll(0), 1);
        refused(x, "best(-1)", x.best(-1), 1);
        refused(x, "costs(0, 0, 0)", x.costs(0, 0, 0), 1);
        refused(x, "window(-1)", x.window(-1), 1);
        refused(x, "share(-1)", x.share(-1), 1);
        refused(x, "weight(0, 0)", x.weight(0, 0), 1);
        refused(x, "heard(0, 0)", x.heard(0, 0), 1);
        refused(x, "doubtful(0)", x.doubtful(0), 1);
    }

    private static void feed() {
        promise = "2";
        HeardVotes x = new HeardVotes();
        // "x weight 7:ab 0 c 12": of each number the highest byte comes first
        due("feed", x.feed(0x78207765, 0x69676874, 0x20373a61, 0x62203020, 0x63203132), 20);
        due("text(20)", x.text(20), 1);
        due("hearing(0, 0)", x.hearing(0, 0), 7);
        due("word(0, 1, 1)", x.word(0, 1, 1), 12);
        x.text(1);
        due("trouble()", x.trouble(), 2);
        for (int k = 1; k <= 30; k++) {
            due("feed no. " + k, x.feed(-1, -1, -1, -1, -1), 20 * k);
        }
        due("feed no. 31", x.feed(1, 2, 3, 4, 5), NONE);
        due("size()", x.size(), 600);
        due("trouble() stays", x.trouble(), 2);
        due("text(600)", x.text(600), NONE);
        due("where() stays behind feed", x.where(), 0);
        due("feed", x.feed(0, 0, 0, 0, 0), 20);
        due("where() stays behind feed", x.where(), 0);
        due("trouble() stays behind feed", x.trouble(), 4);
    }

    private static void text() {
        promise = "3";
        HeardVotes x = new HeardVotes();
        refused(x, "text(-1)", x.text(-1), 2);
        refused(x, "text(1)", x.text(1), 2);
        put(x, "x weight 1:a 0zzzzzz");
        refused(x, "text(21)", x.text(21), 2);
        refused(x, "text(-2147483648)", x.text(Integer.MIN_VALUE), 2);
        refused(x, "text(2147483647)", x.text(Integer.MAX_VALUE), 2);
        due("size() stays", x.size(), 20);
        due("text(14): the first bytes alone", x.text(14), 1);
        due("size()", x.size(), 0);
        due("trouble()", x.trouble(), 0);
        due("five", tell(x, "a weight 1:a0;b weight 1:a0;c weight 1:a0;d weight 1:a0;e weight 1:a0"), 5);
        due("words", tell(x, "weight weight 99 : weight 000"), 1);
        due("twelve", tell(x, "x weight 1:" + TWELVE), 1);
        due("all of the tape", tell(x, "x weight 1:a 0" + " ".repeat(586)), 1);
        due("bounds", tell(x, "x weight 1:a 0 b 999;y weight 99:a 5"), 2);
        allIsGone();
        refusedTextChangesNothing();
    }

    private static void allIsGone() {
        HeardVotes x = joined(CATS);
        x.costs(1, 2, 0);
        x.window(0);
        x.share(0);
        x.weight(0, 9);
        x.write();
        tell(x, CATS);
        due("about(2)", x.about(2), 0);
        due("about(3)", x.about(3), 0);
        due("about(5)", x.about(5), 0);
        due("about(6)", x.about(6), 0);
        due("hearing(0, 0)", x.hearing(0, 0), 2);
        due("hearing(0, 2)", x.hearing(0, 2), BEYOND);
        refused(x, "undo()", x.undo(), 5);
        due("NEWCOST 3", x.join(0), 9);
        due("NEAREST 4, WINDOW 999", x.join(1), 1);
        due("GAPCOST 3", x.join(2), 6);
        due("SHARE 100", x.choice(3, 0, 1), 300);
        // the words are numbered anew, and so their FAR
        tell(x, "x weight 1: aaa 0 b 5");
        due("about(1)", x.about(1), 2);
        due("far(0, 1)", x.far(0, 1), 3);
        tell(x, "x weight 1: a 0 b 5");
        due("far(0, 1)", x.far(0, 1), 1);
    }

    private static void refusedTextChangesNothing() {
        HeardVotes x = joined(CATS);
        x.write();
        due("a faulty text", tell(x, "q weight 5: zebra 1 zebra 1"), NONE);
        due("trouble()", x.trouble(), 4);
        due("size()", x.size(), 0);
        due("about(0)", x.about(0), 3);
        due("about(1)", x.about(1), 5);
        due("about(3)", x.about(3), 4);
        due("about(6)", x.about(6), 1);
        due("hearing(0, 0)", x.hearing(0, 0), 2);
        due("letter(0, 0)", x.letter(0, 0), 19);
        due("word(2, 2, 1)", x.word(2, 2, 1), 30);
        due("octet(0)", octetOrNone(x, 0), 't');
        due("undo()", x.undo(), 0);
    }

    private static void faulty(String text, int fault, int place) {
        HeardVotes x = new HeardVotes();
        due(text, tell(x, text), NONE);
        due("trouble() of " + text, x.trouble(), 4);
        due("fault() of " + text, x.fault(), fault);
        due("where() of " + text, x.where(), place);
        due("size() of " + text, x.size(), 0);
    }

    private static void faultAndWhere() {
        promise = "4, 5";
        faultsOfForm();
        faultsOfTokens();
        faultsOfMany();
        HeardVotes x = new HeardVotes();
        tell(x, "x weight 0");
        due("fault()", x.fault(), 2);
        due("where()", x.where(), 9);
        due("where() again", x.where(), 9);
        due("trouble() is not one that may be refused", x.trouble(), 4);
        due("where() again", x.where(), 9);
        octetOrNone(x, 0);
        x.size();
        due("where() again", x.where(), 9);
        refused(x, "text(1)", x.text(1), 2);
        due("fault() stays", x.fault(), 2);
        due("where()", x.where(), NONE);
        tell(x, "x weight 0");
        refused(x, "about(0)", x.about(0), 1);
        due("where()", x.where(), NONE);
        due("fault() stays", x.fault(), 2);
        tell(x, "x weight 1:a 0");
        due("fault()", x.fault(), 0);
        due("where()", x.where(), NONE);
        tell(x, "x weight 0");
        due("where()", x.where(), 9);
        due("about(0)", x.about(0), 1);
        due("where()", x.where(), NONE);
    }

    private static void faultsOfForm() {
        faulty("", 1, 0);
        faulty("   ", 1, 3);
        faulty("x", 1, 1);
        faulty("1", 1, 0);
        faulty(";", 1, 0);
        faulty("X weight 1:a 0", 1, 0);
        faulty("x wait 1:a 0", 1, 2);
        faulty("x weigh t 1:a 0", 1, 2);
        faulty("x weights 1:a 0", 1, 2);
        faulty("x 1", 1, 2);
        faulty("x weight", 1, 8);
        faulty("x weight a", 1, 9);
        faulty("x weight 1", 1, 10);
        faulty("x weight 1;", 1, 10);
        faulty("x weight 1 1:a 0", 1, 11);
        faulty("x weight 1:", 1, 11);
        faulty("x weight 1:  ", 1, 13);
        faulty("x weight 1:5", 1, 11);
        faulty("x weight 1:;", 1, 11);
        faulty("x weight 1:a", 1, 12);
        faulty("x weight 1:a b", 1, 13);
        faulty("x weight 1:a;", 1, 12);
        faulty("x weight 1:a 0 5", 1, 15);
        faulty("x weight 1:a 0 :", 1, 15);
        faulty("x weight 1:a 0;", 1, 15);
        faulty("x weight 1:a 0 ; ", 1, 17);
        faulty("x weight 1:a 0;;", 1, 15);
        faulty("x weight 1:a 0;1", 1, 15);
        faulty("x weight 1:a -5", 1, 13);
        faulty("x weight 1:a 0" + (char) 9, 1, 14);
        faulty("x weight 1:a 0" + (char) 0, 1, 14);
        faulty("x weight 1:a 0" + (char) 225, 1, 14);
        faulty("x weight 1:a 0`", 1, 14);
        faulty("x weight 1:a 0{", 1, 14);
        faulty("x weight 1:a 0/", 1, 14);
        faulty("x weight 1:a 0<", 1, 14);
    }

    private static void faultsOfTokens() {
        faulty("abcdefg weight 1:a 0", 1, 0);
        faulty("x weightt 1:a 0", 1, 2);
        faulty("x weight 1:abcdefg 0", 1, 11);
        faulty("x weight 1:a 0 abcdefgh 1", 1, 15);
        faulty("x weight 1000:a 0", 1, 9);
        faulty("x weight 0001:a 0", 1, 9);
        faulty("x weight 1:a 1000", 1, 13);
        faulty("x weight 1:a 0000", 1, 13);
        faulty("x weight 0:a 0", 2, 9);
        faulty("x weight 000:a 0", 2, 9);
        faulty("x weight 100:a 0", 2, 9);
        faulty("x weight 999:a 0", 2, 9);
        faulty("x weight 0?", 2, 9);
        faulty("x weight 1:a 5 b 5", 2, 17);
        faulty("x weight 1:a 5 b 4", 2, 17);
        faulty("x weight 1:a 5 b 05 c?", 2, 17);
        faulty("x weight 1:a 0 b 9 c 8", 2, 21);
        HeardVotes x = new HeardVotes();
        due("another line begins with any time", tell(x, "x weight 1:a 5;y weight 1:b 4"), 2);
        due("numbers with noughts ahead", tell(x, "x weight 099:a 005 b 06"), 1);
        due("hearing(0, 0)", x.hearing(0, 0), 99);
        due("word(0, 1, 1)", x.word(0, 1, 1), 6);
        due("blanks mean nothing else", tell(x, "  x weight1:a0b1 ;y weight 2 : b 0  "), 2);
    }

    private static void faultsOfMany() {
        faulty("x weight 1:a 0;x weight 1:a 0", 3, 15);
        faulty("x weight 1:a 0;x", 3, 15);
        faulty("x weight 1:a 0;y weight 1:a 0;x?", 3, 30);
        String five = "a weight 1:a0;b weight 1:a0;c weight 1:a0;d weight 1:a0;e weight 1:a0";
        faulty(five + ";f", 4, five.length() + 1);
        faulty(five + "; f weight 0", 4, five.length() + 2);
        faulty(five + ";c", 3, five.length() + 1);
        faulty(five + ";", 1, five.length() + 1);
        faulty(five + ";abcdefg", 1, five.length() + 1);
        faulty("x weight 1:" + TWELVE + "m", 4, 11 + TWELVE.length());
        faulty("x weight 1:" + TWELVE + " m 5", 4, 12 + TWELVE.length());
        faulty("x weight 1:" + TWELVE + "abcdefg", 1, 11 + TWELVE.length());
        faulty("x weight 1:" + TWELVE + ":", 1, 11 + TWELVE.length());
        faulty("y weight 1:a 0;x weight 1:" + TWELVE + "m", 4, 26 + TWELVE.length());
    }

    private static void about() {
        promise = "6";
        HeardVotes x = told(CATS);
        int[] first = {3, 5, 0, 0, 0, 0, 0, 0};
        for (int what = 0; what < 8; what++) {
            due("about(" + what + ")", x.about(what), first[what]);
        }
        x.join(2);
        x.join(0);
        // z: cat sat down; x comes with the, cat, sat and a GAP: NEW MATCH MATCH SKIP
        int[] two = {3, 5, 2, 4, 3, 15, 2, 3};
        for (int what = 0; what < 8; what++) {
            due("about(" + what + ") of two", x.about(what), two[what]);
        }
        x.weight(2, 99);
        due("about(5): as they were JOINED", x.about(5), 15);
        due("about(7)", x.about(7), 101);
        refused(x, "about(8)", x.about(8), 1);
        refused(x, "about(-1)", x.about(-1), 1);
        for (int what : FAR_OUT) {
            refused(x, "about(" + what + ")", x.about(what), 1);
        }
        due("about(0)", x.about(0), 3);
        due("trouble()", x.trouble(), 0);
    }

    private static void hearing() {
        promise = "7";
        HeardVotes x = told(CATS);
        due("hearing(0, 0)", x.hearing(0, 0), 2);
        due("hearing(2, 1)", x.hearing(2, 1), 3);
        for (int what = 2; what <= 4; what++) {
            due("hearing(1, " + what + ")", x.hearing(1, what), BEYOND);
        }
        due("trouble()", x.trouble(), 0);
        x.join(1);
        x.join(0);
        due("hearing(1, 2)", x.hearing(1, 2), 0);
        due("hearing(0, 2)", x.hearing(0, 2), 1);
        due("hearing(2, 2)", x.hearing(2, 2), BEYOND);
        due("hearing(1, 3)", x.hearing(1, 3), 9);
        due("hearing(0, 3)", x.hearing(0, 3), 1);
        due("hearing(0, 4)", x.hearing(0, 4), 3);
        due("hearing(1, 4): bat is no winner", x.hearing(1, 4), 2);
        x.weight(1, 50);
        x.costs(9, 9, 9);
        due("hearing(1, 0)", x.hearing(1, 0), 50);
        due("hearing(0, 3): as it was JOINED", x.hearing(0, 3), 1);
        due("hearing(0, 4)", x.hearing(0, 4), 2);
        due("hearing(1, 4)", x.hearing(1, 4), 3);
        x.drop(1);
        due("hearing(0, 3): JOINED anew", x.hearing(0, 3), 27);
        refused(x, "hearing(3, 0)", x.hearing(3, 0), 1);
        refused(x, "hearing(-1, 0)", x.hearing(-1, 0), 1);
        refused(x, "hearing(0, 5)", x.hearing(0, 5), 1);
        refused(x, "hearing(0, -1)", x.hearing(0, -1), 1);
        for (int far : FAR_OUT) {
            refused(x, "hearing(" + far + ", 0)", x.hearing(far, 0), 1);
            refused(x, "hearing(0, " + far + ")", x.hearing(0, far), 1);
        }
    }

    private static void word() {
        promise = "8";
        HeardVotes x = told(CATS);
        due("word(0, 0, 0)", x.word(0, 0, 0), 0);
        due("word(1, 0, 0): alike", x.word(1, 0, 0), 0);
        due("word(1, 1, 0)", x.word(1, 1, 0), 3);
        due("word(2, 2, 0)", x.word(2, 2, 0), 4);
        due("word(1, 1, 1)", x.word(1, 1, 1), 11);
        due("word(1, 1, 2)", x.word(1, 1, 2), BEYOND);
        x.join(2);
        x.join(0);
        due("word(2, 0, 2)", x.word(2, 0, 2), 1);
        due("word(0, 0, 2)", x.word(0, 0, 2), 0);
        due("word(2, 2, 2)", x.word(2, 2, 2), 3);
        due("word(1, 1, 2)", x.word(1, 1, 2), BEYOND);
        refused(x, "word(0, 3, 0)", x.word(0, 3, 0), 1);
        refused(x, "word(0, -1, 0)", x.word(0, -1, 0), 1);
        refused(x, "word(3, 0, 0)", x.word(3, 0, 0), 1);
        refused(x, "word(0, 0, 3)", x.word(0, 0, 3), 1);
        refused(x, "word(0, 0, -1)", x.word(0, 0, -1), 1);
        for (int far : FAR_OUT) {
            refused(x, "word(" + far + ", 0, 0)", x.word(far, 0, 0), 1);
            refused(x, "word(0, " + far + ", 0)", x.word(0, far, 0), 1);
            refused(x, "word(0, 0, " + far + ")", x.word(0, 0, far), 1);
        }
        sixtyWords();
    }

    private static void sixtyWords() {
        HeardVotes x = told(sixty());
        due("about(1)", x.about(1), 60);
        due("word(4, 11, 0)", x.word(4, 11, 0), 59);
        due("word(4, 11, 1)", x.word(4, 11, 1), 11);
        due("letter(59, 0)", x.letter(59, 0), 25);
        due("letter(59, 5)", x.letter(59, 5), 7);
        refused(x, "letter(60, 0)", x.letter(60, 0), 1);
        refused(x, "far(60, 59)", x.far(60, 59), 1);
        due("far(59, 0)", x.far(59, 0), 6);
    }

    /** Five HEARINGS of twelve WORDS of six letters each, any two of which are FAR by 3 at the least. */
    private static String sixty() {
        StringBuilder text = new StringBuilder();
        for (int n = 0; n < 60; n++) {
            if (n % 12 == 0) {
                text.append(n > 0 ? ";" : "").append((char) ('v' + n / 12)).append(" weight 1:");
            }
            char one = (char) (n < 26 ? 'a' + n : n < 52 ? 'a' + n - 26 : 'z' - (59 - n));
            char two = (char) (n < 26 ? one : n < 52 ? 'a' + (n + 1) % 26 : 'a' + n % 26);
            text.append(("" + one + two).repeat(3)).append(n % 12);
        }
        return text.toString();
    }

    private static void letter() {
        promise = "9";
        HeardVotes x = told("x weight 1: abz 0 zzzzzy 1");
        int[] want = {0, 1, 25, BEYOND, BEYOND, BEYOND, BEYOND};
        for (int k = 0; k < want.length; k++) {
            due("letter(0, " + k + ")", x.letter(0, k), want[k]);
        }
        due("letter(1, 4)", x.letter(1, 4), 25);
        due("letter(1, 5)", x.letter(1, 5), 24);
        due("letter(1, 6)", x.letter(1, 6), BEYOND);
        due("letter(1, MAX)", x.letter(1, Integer.MAX_VALUE), BEYOND);
        due("trouble()", x.trouble(), 0);
        refused(x, "letter(0, -1)", x.letter(0, -1), 1);
        refused(x, "letter(0, MIN)", x.letter(0, Integer.MIN_VALUE), 1);
        refused(x, "letter(2, 0)", x.letter(2, 0), 1);
        refused(x, "letter(-1, 0)", x.letter(-1, 0), 1);
        for (int far : FAR_OUT) {
            refused(x, "letter(" + far + ", 0)", x.letter(far, 0), 1);
        }
    }

    private static void far() {
        promise = "10";
        HeardVotes x = told("x weight 1: rabbit 0 abbit 1 rabat 2 c 3 abcdef 4 bcdefa 5 rabbot 6");
        due("taken out", x.far(0, 1), 1);
        due("put in", x.far(1, 0), 1);
        due("in place of another", x.far(0, 6), 1);
        due("rabbit, rabat", x.far(0, 2), 2);
        due("none alike", x.far(0, 3), 6);
        due("abcdef, bcdefa", x.far(4, 5), 2);
        due("alike", x.far(4, 4), 0);
        refused(x, "far(7, 0)", x.far(7, 0), 1);
        refused(x, "far(0, 7)", x.far(0, 7), 1);
        refused(x, "far(-1, 0)", x.far(-1, 0), 1);
        refused(x, "far(0, -1)", x.far(0, -1), 1);
        for (int far : FAR_OUT) {
            refused(x, "far(" + far + ", 0)", x.far(far, 0), 1);
            refused(x, "far(0, " + far + ")", x.far(0, far), 1);
        }
    }

    private static void between() {
        promise = "11";
        HeardVotes x = told("x weight 1: a 0 b 1 c 2 d 3; y weight 1: b 0 c 1 d 2 e 3; z weight 1: e 0; u weight 1: a 5 b 6 x 7 d 8");
        due("between(0, 1)", x.between(0, 1), 2);
        due("between(1, 0)", x.between(1, 0), 2);
        due("between(0, 2)", x.between(0, 2), 4);
        due("between(2, 1)", x.between(2, 1), 3);
        due("between(0, 3)", x.between(0, 3), 1);
        due("between(3, 3)", x.between(3, 3), 0);
        refused(x, "between(4, 0)", x.between(4, 0), 1);
        refused(x, "between(0, 4)", x.between(0, 4), 1);
        refused(x, "between(-1, 0)", x.between(-1, 0), 1);
        for (int far : FAR_OUT) {
            refused(x, "between(" + far + ", 0)", x.between(far, 0), 1);
            refused(x, "between(0, " + far + ")", x.between(0, far), 1);
        }
    }

    // ---- acts

    private static void costs() {
        promise = "12";
        HeardVotes x = told("x weight 1: aaaaaa 5; y weight 1: bbbbbb 5 c 6");
        due("costs(9, 1, 0)", x.costs(9, 1, 0), true);
        due("trouble()", x.trouble(), 0);
        due("NEWCOST", x.cost(0), 9);
        due("costs(2, 7, 9)", x.costs(2, 7, 9), true);
        x.join(0);
        due("MATCH 6, NEW 2", x.cost(1), 8);
        x.costs(1, 1, 9);
        due("SKIP 1, NEW 2", x.cost(1), 3);
        dueWay(x, 1, "122");
        x.costs(9, 9, 0);
        due("MATCH 0, NEW 9", x.cost(1), 9);
        refused(x, "costs(0, 1, 1)", x.costs(0, 1, 1), 2);
        refused(x, "costs(10, 1, 1)", x.costs(10, 1, 1), 2);
        refused(x, "costs(1, 0, 1)", x.costs(1, 0, 1), 2);
        refused(x, "costs(1, 10, 1)", x.costs(1, 10, 1), 2);
        refused(x, "costs(1, 1, -1)", x.costs(1, 1, -1), 2);
        refused(x, "costs(1, 1, 10)", x.costs(1, 1, 10), 2);
        for (int far : FAR_OUT) {
            refused(x, "costs(" + far + ", 1, 1)", x.costs(far, 1, 1), 2);
            refused(x, "costs(1, " + far + ", 1)", x.costs(1, far, 1), 2);
            refused(x, "costs(1, 1, " + far + ")", x.costs(1, 1, far), 2);
        }
        due("what is refused changes nothing", x.cost(1), 9);
        due("about(6)", x.about(6), 5);
    }

    private static void window() {
        promise = "13";
        HeardVotes x = told("x weight 1: a 10; y weight 1: a 20; z weight 1: a 0");
        x.join(0);
        due("window(9)", x.window(9), true);
        due("10 are more than 9 apart", x.cost(1), 1);
        due("10 are more than 9 apart", x.cost(2), 1);
        due("window(10)", x.window(10), true);
        due("10 are not more than 10 apart", x.cost(1), 0);
        due("10 are not more than 10 apart", x.cost(2), 0);
        due("window(0)", x.window(0), true);
        due("window(999)", x.window(999), true);
        due("about(6)", x.about(6), 5);
        refused(x, "window(-1)", x.window(-1), 2);
        refused(x, "window(1000)", x.window(1000), 2);
        for (int far : FAR_OUT) {
            refused(x, "window(" + far + ")", x.window(far), 2);
        }
        due("about(6)", x.about(6), 5);
        // 1 more also beyond NEAREST
        x.costs(9, 9, 0);
        x.window(9);
        due("NEAREST and 1 more", x.cost(1), 1);
        due("window(true): trouble()", x.window(5) ? x.trouble() : 9, 0);
    }

    private static void share() {
        promise = "14";
        HeardVotes x = joined("x weight 3: a 0 b 5; y weight 2: a 0");
        due("100 at first", x.choice(1, 1, 1), 200);
        due("share(0)", x.share(0), true);
        due("POINTS 0 are a CHOICE", x.slot(1, 1), 2);
        due("choice(1, 1, 1)", x.choice(1, 1, 1), 0);
        due("share(150)", x.share(150), true);
        due("like POINTS: the GAP behind", x.choice(1, 0, 0), 1);
        due("choice(1, 1, 1)", x.choice(1, 1, 1), 300);
        due("share(151)", x.share(151), true);
        due("the GAP wins", x.slot(1, 4), BEYOND);
        due("share(200)", x.share(200), true);
        due("choice(1, 0, 1)", x.choice(1, 0, 1), 400);
        due("words as ever", x.choice(1, 1, 1), 300);
        refused(x, "share(201)", x.share(201), 2);
        refused(x, "share(-1)", x.share(-1), 2);
        for (int far : FAR_OUT) {
            refused(x, "share(" + far + ")", x.share(far), 2);
        }
        due("choice(1, 0, 1)", x.choice(1, 0, 1), 400);
    }

    private static void weight() {
        promise = "15";
        HeardVotes x = joined(CATS);
        due("weight(0, 99)", x.weight(0, 99), 2);
        due("weight(0, 1)", x.weight(0, 1), 99);
        due("trouble()", x.trouble(), 0);
        due("hearing(0, 0)", x.hearing(0, 0), 1);
        due("weight(1, 3)", x.weight(1, 3), 1);
        due("the SLOT's TIME goes with it: 9, 3 * 11, 10", x.slot(1, 2), 10);
        due("bat wins", x.slot(1, 4), 3);
        due("about(6)", x.about(6), 4);
        refused(x, "weight(0, 0)", x.weight(0, 0), 2);
        refused(x, "weight(0, 100)", x.weight(0, 100), 2);
        refused(x, "weight(3, 0)", x.weight(3, 0), 1);
        refused(x, "weight(-1, 5)", x.weight(-1, 5), 1);
        for (int far : FAR_OUT) {
            refused(x, "weight(" + far + ", " + far + ")", x.weight(far, far), 1);
            refused(x, "weight(0, " + far + ")", x.weight(0, far), 2);
        }
        due("about(6)", x.about(6), 4);
    }

    private static void join() {
        promise = "16";
        HeardVotes x = told(CATS);
        due("join(1)", x.join(1), 9);
        due("trouble()", x.trouble(), 0);
        due("join(0)", x.join(0), 1);
        due("join(2)", x.join(2), 6);
        refused(x, "join(2)", x.join(2), 5);
        refused(x, "join(3)", x.join(3), 1);
        refused(x, "join(-1)", x.join(-1), 1);
        for (int far : FAR_OUT) {
            refused(x, "join(" + far + ")", x.join(far), 1);
        }
        due("about(6)", x.about(6), 3);
        due("hearing(1, 2)", x.hearing(1, 2), 0);
        due("at(0, 2)", x.at(0, 2), BEYOND);
        due("at(3, 2)", x.at(3, 2), 2);
        due("at(3, 0)", x.at(3, 0), BEYOND);
        leastFarOfAll();
        newSlotsBetween();
        timeOfTheSlotByWeights();
        costsAtFirst();
        sixtySlots();
    }

    private static void costsAtFirst() {
        HeardVotes x = told("x weight 1: aaaaaa 0; y weight 1: bbbbbb 999; z weight 1: aaaaaa 999");
        x.join(0);
        due("NEAREST 4", x.cost(1), 4);
        due("WINDOW 999", x.cost(2), 0);
        x.window(998);
        due("999 are more than 998 apart", x.cost(2), 1);
    }

    /** Each word is cheaper as a NEW one, behind all SLOTS that are skipped. */
    private static void sixtySlots() {
        HeardVotes x = told(sixty());
        x.costs(1, 1, 9);
        due("best(-1)", x.best(-1), 180);
        due("best(4)", x.best(4), 4);
        for (int h = 0; h < 5; h++) {
            due("join(" + h + ")", x.join(h), 12 * h + 12);
        }
        due("SLOTS", x.about(3), 60);
        due("COSTS", x.about(5), 180);
        due("at(59, 4)", x.at(59, 4), 11);
        due("at(48, 4)", x.at(48, 4), 0);
        due("at(47, 4)", x.at(47, 4), BEYOND);
        due("at(47, 3)", x.at(47, 3), 11);
        due("word(2, 5, 2)", x.word(2, 5, 2), 29);
        due("nothing is HEARD", x.about(4), 0);
        due("doubtful(59)", x.doubtful(59), 59);
        due("errors(0)", x.errors(0), 12);
        x.share(0);
        due("all are HEARD", x.about(4), 60);
        due("heard(59, 0)", x.heard(59, 0), 59);
        due("slot(59, 5)", x.slot(59, 5), 59);
        due("errors(0)", x.errors(0), 48);
        due("without(0)", x.without(0), 12);
        due("write()", x.write(), 419);
        due("octet(418)", octetOrNone(x, 418), 'h');
        due("octet(419)", octetOrNone(x, 419), NONE);
        due("drop(1)", x.drop(1), 48);
        due("cost(1)", x.cost(1), 60);
        due("way(1, 47)", x.way(1, 47), 1);
        due("way(1, 59)", x.way(1, 59), 2);
        due("way(1, 60)", x.way(1, 60), BEYOND);
        due("join(1)", x.join(1), 60);
        due("at(59, 1)", x.at(59, 1), 11);
        refused(x, "slot(60, 0)", x.slot(60, 0), 1);
    }

    /** A word is as near to a SLOT as to the nearest word THERE. */
    private static void leastFarOfAll() {
        HeardVotes x = told("x weight 1: abcd 0; y weight 1: abzz 0; z weight 1: yyzz 0");
        x.join(0);
        due("2 from abcd", x.cost(1), 2);
        due("4 from abcd", x.cost(2), 4);
        x.join(1);
        due("2 from abzz", x.cost(2), 2);
    }

    private static void newSlotsBetween() {
        HeardVotes x = told("x weight 1: aaaa 0 bbbb 9; y weight 1: cccc 0 aaaa 2 dddd 4 bbbb 9 eeee 11");
        x.join(0);
        due("join(1)", x.join(1), 9);
        int[] ofX = {BEYOND, 0, BEYOND, 1, BEYOND};
        for (int s = 0; s < 5; s++) {
            due("at(" + s + ", 0)", x.at(s, 0), ofX[s]);
            due("at(" + s + ", 1)", x.at(s, 1), s);
        }
        due("word(0, 1, 2)", x.word(0, 1, 2), 3);
    }

    /** 1 * 0 and 3 * 11, by 4: 8 downwards. */
    private static void timeOfTheSlotByWeights() {
        HeardVotes x = told("x weight 1: a 0; y weight 3: a 11; z weight 1: a 20; u weight 1: a 19");
        x.join(0);
        x.join(1);
        due("slot(0, 2)", x.slot(0, 2), 8);
        x.window(11);
        due("12 apart", x.cost(2), 1);
        due("11 apart", x.cost(3), 0);
        x.weight(0, 99);
        due("33 by 102 is 0: 19 apart", x.cost(3), 1);
    }

    private static void joinAll() {
        promise = "17";
        HeardVotes x = told("x weight 1: a 0 b 1; y weight 5: a 0; z weight 5: a 0 b 1 c 2; u weight 7: q 0 r 1");
        // x 6; y MATCH, SKIP 3; z 3; u 1 1 SKIP 5
        due("joinAll(0)", x.joinAll(0), 17);
        due("about(6): one ACT", x.about(6), 1);
        orderIs(x, 0, 1, 2, 3);
        due("joinAll(0) of none", x.joinAll(0), 0);
        due("about(6)", x.about(6), 2);
        x.undo();
        x.undo();
        due("about(2)", x.about(2), 0);
        x.joinAll(1);
        orderIs(x, 3, 1, 2, 0);
        x.undo();
        // the least COST: y 3; then x 0 3 = 3, u 1 3 = 4; with x: z 3, u 2; then z 3
        due("joinAll(2)", x.joinAll(2), 11);
        orderIs(x, 1, 0, 3, 2);
        x.undo();
        x.join(2);
        x.joinAll(0);
        orderIs(x, 2, 0, 1, 3);
        due("about(6)", x.about(6), 2);
        refused(x, "joinAll(3)", x.joinAll(3), 1);
        refused(x, "joinAll(-1)", x.joinAll(-1), 1);
        for (int far : FAR_OUT) {
            refused(x, "joinAll(" + far + ")", x.joinAll(far), 1);
        }
        HeardVotes like = told("x weight 1: a 0; y weight 1: a 0; z weight 2: a 0");
        like.joinAll(2);
        orderIs(like, 0, 1, 2);
        like.undo();
        like.joinAll(1);
        orderIs(like, 2, 0, 1);
    }

    private static void orderIs(HeardVotes x, int... order) {
        for (int k = 0; k < order.length; k++) {
            due("the place of " + order[k], x.hearing(order[k], 2), k);
        }
    }

    private static void drop() {
        promise = "18";
        HeardVotes x = joined(CATS);
        due("about(5)", x.about(5), 16);
        due("drop(0)", x.drop(0), 4);
        due("trouble()", x.trouble(), 0);
        due("about(2)", x.about(2), 2);
        // y 9; z: SKIP, MATCH bat 1, MATCH 0, NEW 3
        due("about(5)", x.about(5), 16);
        due("hearing(1, 2)", x.hearing(1, 2), 0);
        due("hearing(2, 3)", x.hearing(2, 3), 7);
        due("hearing(0, 2)", x.hearing(0, 2), BEYOND);
        due("at(0, 0)", x.at(0, 0), BEYOND);
        refused(x, "drop(0)", x.drop(0), 5);
        refused(x, "drop(3)", x.drop(3), 1);
        refused(x, "drop(-1)", x.drop(-1), 1);
        for (int far : FAR_OUT) {
            refused(x, "drop(" + far + ")", x.drop(far), 1);
        }
        due("about(6)", x.about(6), 2);
        x.costs(1, 1, 9);
        due("drop(1)", x.drop(1), 3);
        due("by costs as they are now", x.about(5), 3);
        due("drop(2)", x.drop(2), 0);
        due("about(3)", x.about(3), 0);
        due("about(2)", x.about(2), 0);
        HeardVotes order = told("x weight 1: a 0; y weight 1: b 0; z weight 1: c 0");
        order.join(2);
        order.join(0);
        order.join(1);
        order.drop(0);
        orderIs(order, 2, 1);
        order.join(0);
        orderIs(order, 2, 1, 0);
    }

    private static void weigh() {
        promise = "19";
        HeardVotes x = joined(CATS);
        due("weigh()", x.weigh(), 3);
        due("trouble()", x.trouble(), 0);
        due("all of three", x.hearing(0, 0), 99);
        due("two of three", x.hearing(1, 0), 66);
        due("two of three", x.hearing(2, 0), 66);
        due("weigh() again", x.weigh(), 0);
        due("about(6)", x.about(6), 3);
        // y wins bat by its WEIGHT; all at once, so x has the, sat
        x.weight(0, 1);
        x.weight(1, 99);
        x.weight(2, 1);
        due("weigh()", x.weigh(), 2);
        due("hearing(0, 0)", x.hearing(0, 0), 66);
        due("hearing(1, 0)", x.hearing(1, 0), 99);
        due("hearing(2, 0): sat alone", x.hearing(2, 0), 33);
        HeardVotes apart = told("x weight 9: a 0; y weight 2: q 0; z weight 7: a 0");
        due("weigh() of none", apart.weigh(), 0);
        due("about(6)", apart.about(6), 1);
        apart.join(0);
        apart.join(1);
        due("weigh()", apart.weigh(), 2);
        due("none of one", apart.hearing(1, 0), 1);
        due("one of one", apart.hearing(0, 0), 99);
        due("not JOINED", apart.hearing(2, 0), 7);
    }

    private static void undo() {
        promise = "20";
        HeardVotes x = told(CATS);
        refused(x, "undo()", x.undo(), 5);
        x.costs(9, 9, 0);
        x.window(0);
        x.share(0);
        x.weight(0, 50);
        x.join(0);
        x.joinAll(0);
        x.drop(0);
        x.weigh();
        due("about(6)", x.about(6), 8);
        x.undo();
        due("weigh() undone", x.hearing(1, 0), 1);
        x.undo();
        due("drop() undone", x.hearing(0, 2), 0);
        due("drop() undone", x.about(5), 27 + x.hearing(1, 3) + x.hearing(2, 3));
        x.undo();
        due("joinAll() undone", x.about(2), 1);
        due("undo()", x.undo(), 4);
        due("join() undone", x.about(3), 0);
        due("undo()", x.undo(), 3);
        due("weight() undone", x.hearing(0, 0), 2);
        x.undo();
        due("undo()", x.undo(), 1);
        due("undo()", x.undo(), 0);
        refused(x, "undo()", x.undo(), 5);
        x.joinAll(0);
        due("all as at first", x.about(5), 16);
        due("SHARE as at first", x.choice(3, 0, 1), 300);
        theLatestTen();
        refusedOnesAreNoActs();
    }

    private static void theLatestTen() {
        HeardVotes x = told("x weight 1: a 0");
        for (int v = 2; v <= 30; v++) {
            x.weight(0, v);
            due("about(6)", x.about(6), Math.min(v - 1, 10));
        }
        for (int left = 9; left >= 0; left--) {
            due("undo()", x.undo(), left);
            due("hearing(0, 0)", x.hearing(0, 0), 20 + left);
        }
        refused(x, "undo()", x.undo(), 5);
        due("hearing(0, 0)", x.hearing(0, 0), 20);
        x.weight(0, 7);
        due("undo()", x.undo(), 0);
        due("hearing(0, 0)", x.hearing(0, 0), 20);
    }

    private static void refusedOnesAreNoActs() {
        HeardVotes x = told(CATS);
        x.join(0);
        x.join(0);
        x.join(9);
        x.weight(0, 0);
        x.costs(0, 0, 0);
        x.drop(1);
        x.joinAll(7);
        x.window(-1);
        x.share(-1);
        due("about(6)", x.about(6), 1);
        tell(x, "x weight 0");
        due("a faulty text leaves ACTS", x.about(6), 1);
        due("undo()", x.undo(), 0);
        due("about(2)", x.about(2), 0);
    }

    // ---- the net

    /** SLOT 0: a a b, SLOT 1: c and two GAPS. */
    private static HeardVotes threeVotes() {
        return joined("x weight 3: a 10 c 50; y weight 2: a 20; z weight 5: b 31");
    }

    private static void slot() {
        promise = "21";
        HeardVotes x = threeVotes();
        // times 30 + 40 + 155 by 10; a has 500 as b: the lesser number wins
        int[] first = {3, 2, 22, 1000, 0, 0, 10, 31};
        int[] second = {1, 2, 50, 1000, BEYOND, BEYOND, 50, 50};
        for (int what = 0; what < 8; what++) {
            due("slot(0, " + what + ")", x.slot(0, what), first[what]);
            due("slot(1, " + what + ")", x.slot(1, what), second[what]);
        }
        due("trouble()", x.trouble(), 0);
        x.weight(2, 6);
        due("b wins", x.slot(0, 4), 2);
        x.share(50);
        due("POINTS of all", x.slot(1, 3), 300 + 100 + 300);
        due("the GAP wins", x.slot(1, 4), BEYOND);
        x.share(0);
        due("c wins", x.slot(1, 5), 1);
        refused(x, "slot(2, 0)", x.slot(2, 0), 1);
        refused(x, "slot(-1, 0)", x.slot(-1, 0), 1);
        refused(x, "slot(0, 8)", x.slot(0, 8), 1);
        refused(x, "slot(0, -1)", x.slot(0, -1), 1);
        for (int far : FAR_OUT) {
            refused(x, "slot(" + far + ", 0)", x.slot(far, 0), 1);
            refused(x, "slot(0, " + far + ")", x.slot(0, far), 1);
        }
        HeardVotes alone = told("x weight 1: a 0; y weight 1: b 0");
        refused(alone, "slot(0, 0)", alone.slot(0, 0), 1);
        alone.join(1);
        due("no GAP of one that isn't JOINED", alone.slot(0, 1), 1);
        due("slot(0, 4)", alone.slot(0, 4), 1);
        lateAndEarly();
    }

    private static void lateAndEarly() {
        HeardVotes x = joined("x weight 1: a 999; y weight 1: a 0");
        due("slot(0, 6)", x.slot(0, 6), 0);
        due("slot(0, 7)", x.slot(0, 7), 999);
        due("downwards", x.slot(0, 2), 499);
        x = joined("x weight 1: a 999");
        due("slot(0, 6)", x.slot(0, 6), 999);
        x = joined("x weight 1: a 0");
        due("slot(0, 7)", x.slot(0, 7), 0);
    }

    private static void at() {
        promise = "22";
        HeardVotes x = told(CATS);
        refused(x, "at(0, 0)", x.at(0, 0), 1);
        x.join(0);
        due("at(2, 0)", x.at(2, 0), 2);
        due("not JOINED", x.at(2, 1), BEYOND);
        x.joinAll(0);
        due("a GAP", x.at(0, 2), BEYOND);
        due("at(1, 2)", x.at(1, 2), 0);
        due("trouble()", x.trouble(), 0);
        refused(x, "at(4, 0)", x.at(4, 0), 1);
        refused(x, "at(0, 3)", x.at(0, 3), 1);
        refused(x, "at(-1, 0)", x.at(-1, 0), 1);
        refused(x, "at(0, -1)", x.at(0, -1), 1);
        for (int far : FAR_OUT) {
            refused(x, "at(" + far + ", 0)", x.at(far, 0), 1);
            refused(x, "at(0, " + far + ")", x.at(0, far), 1);
        }
    }

    private static void choice() {
        promise = "23";
        HeardVotes x = threeVotes();
        int[][] first = {{0, 500, 1, 2}, {2, 500, 1, 2}};
        int[][] second = {{BEYOND, 700, 7, 10}, {1, 300, 3, 10}};
        for (int i = 0; i < 2; i++) {
            for (int what = 0; what < 4; what++) {
                due("choice(0, " + i + ", " + what + ")", x.choice(0, i, what), first[i][what]);
                due("choice(1, " + i + ", " + what + ")", x.choice(1, i, what), second[i][what]);
            }
        }
        due("trouble()", x.trouble(), 0);
        x.share(0);
        due("0 in lowest terms", x.choice(1, 1, 2), 0);
        due("0 in lowest terms", x.choice(1, 1, 3), 1);
        due("1 in lowest terms", x.choice(1, 0, 2), 1);
        due("1 in lowest terms", x.choice(1, 0, 3), 1);
        refused(x, "choice(0, 2, 0)", x.choice(0, 2, 0), 1);
        refused(x, "choice(0, -1, 0)", x.choice(0, -1, 0), 1);
        refused(x, "choice(2, 0, 0)", x.choice(2, 0, 0), 1);
        refused(x, "choice(0, 0, 4)", x.choice(0, 0, 4), 1);
        refused(x, "choice(0, 0, -1)", x.choice(0, 0, -1), 1);
        for (int far : FAR_OUT) {
            refused(x, "choice(" + far + ", 0, 0)", x.choice(far, 0, 0), 1);
            refused(x, "choice(0, " + far + ", 0)", x.choice(0, far, 0), 1);
            refused(x, "choice(0, 0, " + far + ")", x.choice(0, 0, far), 1);
        }
        HeardVotes five = joined("x weight 1: e 0; y weight 2: d 0; z weight 2: c 0; u weight 1: b 0; v weight 3: a 0");
        int[] order = {4, 1, 2, 0, 3};
        for (int i = 0; i < 5; i++) {
            due("choice(0, " + i + ", 0) of five", five.choice(0, i, 0), order[i]);
        }
        refused(five, "choice(0, 5, 0)", five.choice(0, 5, 0), 1);
    }

    private static void doubt() {
        promise = "24";
        HeardVotes x = threeVotes();
        due("1 - 1/2 + 1/2", x.doubt(0, 0), 1);
        due("1 - 1/2 + 1/2", x.doubt(0, 1), 1);
        due("1 - 7/10 + 3/10", x.doubt(1, 0), 3);
        due("1 - 7/10 + 3/10", x.doubt(1, 1), 5);
        x.share(0);
        due("1 - 1 + 0", x.doubt(1, 0), 0);
        due("1 - 1 + 0", x.doubt(1, 1), 1);
        HeardVotes one = joined("x weight 5: a 0");
        due("without a second", one.doubt(0, 0), 0);
        due("without a second", one.doubt(0, 1), 1);
        HeardVotes three = joined("x weight 4: a 0; y weight 3: b 0; z weight 2: c 0");
        due("1 - 4/9 + 3/9", three.doubt(0, 0), 8);
        due("1 - 4/9 + 3/9", three.doubt(0, 1), 9);
        refused(x, "doubt(0, 2)", x.doubt(0, 2), 1);
        refused(x, "doubt(0, -1)", x.doubt(0, -1), 1);
        refused(x, "doubt(2, 0)", x.doubt(2, 0), 1);
        refused(x, "doubt(-1, 0)", x.doubt(-1, 0), 1);
        for (int far : FAR_OUT) {
            refused(x, "doubt(" + far + ", 0)", x.doubt(far, 0), 1);
            refused(x, "doubt(0, " + far + ")", x.doubt(0, far), 1);
        }
    }

    private static void doubtful() {
        promise = "25";
        HeardVotes x = joined(CATS);
        int[] order = {0, 1, 3, 2};
        for (int i = 0; i < 4; i++) {
            due("doubtful(" + i + ")", x.doubtful(i), order[i]);
        }
        due("trouble()", x.trouble(), 0);
        // the second SLOT is now 5 of 10 against 5, the others 2 of 10
        x.weight(0, 4);
        x.weight(1, 5);
        due("doubt(1, 0)", x.doubt(1, 0), 1);
        due("doubt(1, 1)", x.doubt(1, 1), 1);
        int[] other = {1, 0, 3, 2};
        for (int i = 0; i < 4; i++) {
            due("doubtful(" + i + ")", x.doubtful(i), other[i]);
        }
        refused(x, "doubtful(4)", x.doubtful(4), 1);
        refused(x, "doubtful(-1)", x.doubtful(-1), 1);
        for (int far : FAR_OUT) {
            refused(x, "doubtful(" + far + ")", x.doubtful(far), 1);
        }
        HeardVotes none = told(CATS);
        refused(none, "doubtful(0)", none.doubtful(0), 1);
        greatPoints();
    }

    /** POINTS above and below whose products are beyond an int. */
    private static void greatPoints() {
        HeardVotes x = joined("x weight 99: a 0 c 9; y weight 98: b 0 c 9; z weight 97: a 0 c 9; u weight 96: b 0 d 9; v weight 95: b 0 c 9");
        due("doubtful(0)", x.doubtful(0), 0);
        due("doubtful(1)", x.doubtful(1), 1);
        x = joined("x weight 99: c 0 a 9; y weight 98: c 0 b 9; z weight 97: c 0 a 9; u weight 96: d 0 b 9; v weight 95: c 0 b 9");
        due("doubtful(0)", x.doubtful(0), 1);
        due("doubtful(1)", x.doubtful(1), 0);
    }

    private static void heard() {
        promise = "26";
        HeardVotes x = joined("x weight 2: a 10 b 20; y weight 1: a 15 b 20 c 30; z weight 1: d 18 b 22 c 40");
        int[][] want = {{0, 11, 0}, {1, 20, 1}, {2, 35, 2}};
        for (int i = 0; i < 3; i++) {
            for (int what = 0; what < 3; what++) {
                due("heard(" + i + ", " + what + ")", x.heard(i, what), want[i][what]);
            }
        }
        x.weight(0, 9);
        due("the GAP is not heard", x.about(4), 2);
        refused(x, "heard(2, 0)", x.heard(2, 0), 1);
        refused(x, "heard(-1, 0)", x.heard(-1, 0), 1);
        refused(x, "heard(0, 3)", x.heard(0, 3), 1);
        refused(x, "heard(0, -1)", x.heard(0, -1), 1);
        for (int far : FAR_OUT) {
            refused(x, "heard(" + far + ", 0)", x.heard(far, 0), 1);
            refused(x, "heard(0, " + far + ")", x.heard(0, far), 1);
        }
        HeardVotes gone = joined("x weight 1: zz 0 a 5; y weight 1: a 5; z weight 1: a 5");
        due("the GAP ahead of a word", gone.heard(0, 2), 1);
        due("its WORD", gone.heard(0, 0), 1);
        due("its place", gone.slot(1, 5), 0);
    }

    private static void errors() {
        promise = "27";
        HeardVotes x = told(CATS);
        due("nothing is HEARD", x.errors(2), 3);
        x.join(0);
        due("errors(0)", x.errors(0), 0);
        due("one that isn't JOINED", x.errors(1), 1);
        due("errors(2)", x.errors(2), 2);
        x.joinAll(0);
        x.weight(2, 99);
        due("cat sat down", x.errors(2), 0);
        due("errors(0)", x.errors(0), 2);
        due("errors(1)", x.errors(1), 3);
        due("trouble()", x.trouble(), 0);
        refused(x, "errors(3)", x.errors(3), 1);
        refused(x, "errors(-1)", x.errors(-1), 1);
        for (int far : FAR_OUT) {
            refused(x, "errors(" + far + ")", x.errors(far), 1);
        }
    }

    // ---- on paper

    private static void cost() {
        promise = "28";
        HeardVotes x = told(CATS);
        due("cost(2)", x.cost(2), 9);
        x.join(0);
        due("cost(1)", x.cost(1), 1);
        due("cost(2)", x.cost(2), 6);
        due("nothing changes", x.about(2), 1);
        due("nothing changes", x.about(6), 1);
        due("trouble()", x.trouble(), 0);
        refused(x, "cost(0)", x.cost(0), 5);
        refused(x, "cost(3)", x.cost(3), 1);
        refused(x, "cost(-1)", x.cost(-1), 1);
        for (int far : FAR_OUT) {
            refused(x, "cost(" + far + ")", x.cost(far), 1);
        }
    }

    private static void way() {
        promise = "29";
        HeardVotes x = told(CATS);
        dueWay(x, 0, "222");
        x.join(0);
        dueWay(x, 1, "000");
        dueWay(x, 2, "1002");
        due("beyond", x.way(2, 4), BEYOND);
        due("far beyond", x.way(2, Integer.MAX_VALUE), BEYOND);
        due("trouble()", x.trouble(), 0);
        refused(x, "way(2, -1)", x.way(2, -1), 1);
        refused(x, "way(0, 0)", x.way(0, 0), 5);
        refused(x, "way(0, -1)", x.way(0, -1), 1);
        refused(x, "way(3, 0)", x.way(3, 0), 1);
        for (int far : FAR_OUT) {
            refused(x, "way(" + far + ", 0)", x.way(far, 0), 1);
        }
        refused(x, "way(1, MIN)", x.way(1, Integer.MIN_VALUE), 1);
        likeWays();
    }

    /** Of like ways the one whose first step apart is MATCH, then SKIP, then NEW. */
    private static void likeWays() {
        HeardVotes x = told("x weight 1: aa 0 aa 1; y weight 1: aa 0; z weight 1: bb 5; u weight 1: aa 0 aa 1 aa 2");
        x.join(0);
        dueWay(x, 1, "01");
        dueWay(x, 3, "002");
        x.costs(1, 1, 9);
        // bb: MATCH 2 and SKIP 1 is 3, and so are SKIP SKIP NEW in any order
        dueWay(x, 2, "01");
        x.costs(1, 1, 1);
        dueWay(x, 2, "01");
        HeardVotes y = told("x weight 1: aaa 0; z weight 1: bbb 5");
        y.join(0);
        y.costs(1, 1, 9);
        due("SKIP and NEW", y.cost(1), 2);
        dueWay(y, 1, "12");
        y.costs(1, 2, 9);
        dueWay(y, 1, "0");
        y.costs(1, 1, 2);
        dueWay(y, 1, "0");
    }

    private static void without() {
        promise = "30";
        HeardVotes x = joined(CATS);
        due("without(0)", x.without(0), 1);
        due("without(2)", x.without(2), 0);
        due("nothing changes", x.about(2), 3);
        due("nothing changes", x.about(5), 16);
        due("nothing changes", x.about(6), 1);
        due("trouble()", x.trouble(), 0);
        x.drop(2);
        refused(x, "without(2)", x.without(2), 5);
        refused(x, "without(3)", x.without(3), 1);
        refused(x, "without(-1)", x.without(-1), 1);
        for (int far : FAR_OUT) {
            refused(x, "without(" + far + ")", x.without(far), 1);
        }
        HeardVotes one = joined("x weight 1: a 0 b 1 c 2");
        due("nothing is HEARD then", one.without(0), 3);
        due("about(3)", one.about(3), 3);
        // a weight of 9 alone has made these HEARD
        HeardVotes most = joined("x weight 9: p 0 q 1; y weight 1: r 0 s 1; z weight 1: r 0 s 1");
        due("without(0)", most.without(0), 2);
        due("without(1)", most.without(1), 0);
    }

    private static void best() {
        promise = "31";
        HeardVotes x = told(CATS);
        due("best(-1)", x.best(-1), 16);
        for (int i = 0; i < 3; i++) {
            due("best(" + i + ")", x.best(i), i);
        }
        due("nothing changes", x.about(2), 0);
        due("nothing changes", x.about(6), 0);
        refused(x, "best(3)", x.best(3), 1);
        refused(x, "best(-2)", x.best(-2), 1);
        for (int far : FAR_OUT) {
            refused(x, "best(" + far + ")", x.best(far), 1);
        }
        x.join(2);
        due("all there are, begun anew", x.best(-1), 16);
        due("best(0)", x.best(0), 0);
        due("about(2)", x.about(2), 1);
        x.costs(1, 1, 4);
        due("by costs as they are", x.best(-1), 6);
        x.undo();
        due("as it was", x.best(-1), 16);
        windowAndWeightCount();
        HeardVotes y = told("x weight 1: abcd 0; y weight 1: yyzz 0; z weight 1: abzz 0");
        // 0 1 2: 3 4 2; 0 2 1: 3 2 2
        due("best(-1)", y.best(-1), 7);
        int[] order = {0, 2, 1};
        for (int i = 0; i < 3; i++) {
            due("best(" + i + ")", y.best(i), order[i]);
        }
        tell(y, "x weight 1: a 0");
        due("another TEXT", y.best(-1), 3);
        due("best(0)", y.best(0), 0);
        refused(y, "best(1)", y.best(1), 1);
    }

    /** Within 15: y from x or z; z not from x, but from both by WEIGHTS. */
    private static void windowAndWeightCount() {
        HeardVotes x = told("x weight 1: a 0; y weight 9: a 14; z weight 1: a 28");
        due("best(-1)", x.best(-1), 3);
        x.window(15);
        due("by WINDOW", x.best(-1), 3);
        x.weight(1, 1);
        // 0 and 14 are 7: 28 is 21 apart; 14 and 28 are 21: 0 is 21 apart; 0 and 28: 1 more
        due("by WEIGHTS", x.best(-1), 4);
        x.undo();
        due("undone", x.best(-1), 3);
    }

    // ---- what is written

    private static void write() {
        promise = "32";
        HeardVotes x = told(CATS);
        due("nothing is HEARD", x.write(), 0);
        x.joinAll(0);
        dueWritten(x, "the cat sat");
        due("trouble()", x.trouble(), 0);
        x.weigh();
        dueWritten(x, "the? cat? sat");
        x.share(0);
        dueWritten(x, "the cat? sat down");
        HeardVotes half = joined("x weight 3: a 0; y weight 1: b 0");
        due("a half", half.doubt(0, 1), 2);
        dueWritten(half, "a");
        half.weight(0, 2);
        dueWritten(half, "a?");
        due("bytes", half.write(), 2);
        due("about(6): writing is no ACT", half.about(6), 2);
        HeardVotes longest = joined("x weight 1: abcdef 0 zyxwvu 1");
        dueWritten(longest, "abcdef zyxwvu");
    }

    private static void octet() {
        promise = "33";
        HeardVotes x = joined("x weight 1: ab 0 z 9; y weight 1: ab 0 q 9");
        due("nothing is written yet", octetOrNone(x, 0), NONE);
        due("write()", x.write(), 5);
        int[] bytes = {'a', 'b', ' ', 'z', '?', NONE, NONE};
        for (int k = 0; k < bytes.length; k++) {
            due("octet(" + k + ")", octetOrNone(x, k), bytes[k]);
        }
        due("octet(-1)", octetOrNone(x, -1), NONE);
        for (int far : FAR_OUT) {
            due("octet(" + far + ")", octetOrNone(x, far), NONE);
        }
        refused(x, "about(9)", x.about(9), 1);
        octetOrNone(x, 0);
        octetOrNone(x, 99);
        due("trouble() stays", x.trouble(), 1);
        x.weight(1, 9);
        x.undo();
        tell(x, CATS);
        due("also ahead of another TEXT", octetOrNone(x, 3), 'z');
        due("write()", x.write(), 0);
        due("nothing was written last", octetOrNone(x, 0), NONE);
    }

    private static void size() {
        promise = "34";
        HeardVotes x = new HeardVotes();
        due("size()", x.size(), 0);
        x.feed(1, 2, 3, 4, 5);
        due("size()", x.size(), 20);
        x.feed(1, 2, 3, 4, 5);
        due("size()", x.size(), 40);
        x.text(41);
        due("size()", x.size(), 40);
        x.text(0);
        due("size()", x.size(), 0);
    }

    private static void trouble() {
        promise = "35";
        HeardVotes x = told(CATS);
        due("trouble()", x.trouble(), 0);
        x.join(9);
        due("trouble()", x.trouble(), 1);
        x.feed(1, 2, 3, 4, 5);
        x.fault();
        x.where();
        x.size();
        octetOrNone(x, 0);
        due("calls without a number", x.trouble(), 1);
        int[] reset = {x.about(0), x.trouble(), x.hearing(9, 0), x.trouble(), x.hearing(0, 0), x.trouble()};
        int[] want = {3, 0, NONE, 1, 2, 0};
        for (int k = 0; k < want.length; k++) {
            due("step " + k, reset[k], want[k]);
        }
        everyCallClearsIt();
    }

    private static void everyCallClearsIt() {
        HeardVotes x = joined(CATS);
        x.drop(2);
        for (int call = 0; call < 25; call++) {
            x.about(99);
            due("refused", x.trouble(), 1);
            boolean isDone = call < 12 ? firstCalls(x, call) : laterCalls(x, call);
            due("call no. " + call, isDone, true);
            due("trouble() behind call no. " + call, x.trouble(), 0);
        }
    }

    private static boolean firstCalls(HeardVotes x, int call) {
        return switch (call) {
            case 0 -> x.word(0, 0, 0) == 0;
            case 1 -> x.letter(0, 0) == 19;
            case 2 -> x.far(0, 0) == 0;
            case 3 -> x.between(0, 0) == 0;
            case 4 -> x.costs(3, 3, 4);
            case 5 -> x.window(999);
            case 6 -> x.share(100);
            case 7 -> x.weight(0, 2) == 2;
            case 8 -> x.cost(2) == 6;
            case 9 -> x.way(2, 0) == 1;
            case 10 -> x.join(2) == 6;
            default -> x.drop(2) == 3;
        };
    }

    private static boolean laterCalls(HeardVotes x, int call) {
        return switch (call) {
            case 12 -> x.joinAll(0) == 6;
            case 13 -> x.weigh() == 3;
            case 14 -> x.undo() >= 0;
            case 15 -> x.slot(0, 0) == 2;
            case 16 -> x.at(0, 0) == 0;
            case 17 -> x.choice(0, 0, 0) == 0;
            case 18 -> x.doubt(0, 0) == 1;
            case 19 -> x.doubtful(0) == 0;
            case 20 -> x.heard(0, 0) == 0;
            case 21 -> x.errors(0) == 0;
            case 22 -> x.without(2) == 0;
            case 23 -> x.best(-1) == 16;
            default -> x.write() == 11;
        };
    }
}
