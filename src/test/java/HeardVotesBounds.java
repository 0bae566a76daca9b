import java.io.IOException;
import java.lang.reflect.InvocationTargetException;
import java.lang.reflect.Method;
import java.nio.charset.StandardCharsets;
import java.nio.file.Files;
import java.nio.file.Path;
import java.util.ArrayList;
import java.util.Arrays;
import java.util.HashMap;
import java.util.HashSet;
import java.util.List;
import java.util.Map;
import java.util.Objects;
import java.util.Set;
import java.util.TreeSet;
import java.util.regex.Matcher;
import java.util.regex.Pattern;
import java.util.stream.Stream;

/**
 * The sentences of the document that name a bound, one run of calls for each, in src/test/runs/*.runs
 * (README.md says how these are written). Behind each call more is looked at than the run tells:
 * trouble() and where(), that what is refused or asked changes nothing, that an ACT can be undone, that a
 * TEXT leaves nothing of what there was, and that a place of a FAULT is gone behind it.
 */
public final class HeardVotesBounds {
    private static final Path RUNS = Path.of("src/test/runs");
    private static final int PROMISES = 35;
    private static final int MOST_CALLS = 512;
    /** Calls for one part of a picture; both that are compared get as many, however long their runs are. */
    private static final int PICTURE_CALLS = 280;
    private static final String NONE = "-1";
    /** Calls of which the document tells no number of TROUBLE. */
    private static final Set<String> UNNUMBERED = Set.of("feed", "fault", "where", "octet", "size", "trouble");
    private static final Set<String> ACTS = Set.of(
            "costs", "window", "share", "weight", "join", "joinAll", "drop", "weigh");
    /** Calls that are no ACTS and change something all the same. */
    private static final Set<String> CHANGERS = Set.of("feed", "text", "undo", "write");
    private static final Map<String, Method> FACE = new HashMap<>();

    private static int wrong = 0;
    private static int runs = 0;
    private static long asked = 0;

    public static void main(String[] args) throws IOException {
        for (Method method : HeardVotes.class.getMethods()) {
            FACE.put(method.getName(), method);
        }
        Set<Integer> promises = new TreeSet<>();
        Set<String> titles = new HashSet<>();
        List<Path> files;
        try (Stream<Path> found = Files.list(RUNS)) {
            files = found.filter(path -> path.toString().endsWith(".runs")).sorted().toList();
        }
        Map<String, String> texts = new HashMap<>();
        for (Path file : files) {
            readRuns(file, promises, titles, texts);
        }
        for (int promise = 1; promise <= PROMISES; promise++) {
            if (!promises.contains(promise)) {
                tellWrong("no run of promise " + promise);
            }
        }
        System.out.println(runs + " runs, " + asked + " calls, " + wrong + " answers are not as due");
        if (wrong != 0) {
            System.exit(1);
        }
    }

    private static void tellWrong(String what) {
        wrong++;
        System.out.println(what);
    }

    // ---- how runs are read

    private static void readRuns(Path file, Set<Integer> promises, Set<String> titles, Map<String, String> texts)
            throws IOException {
        Run run = null;
        int number = 0;
        for (String line : Files.readAllLines(file, StandardCharsets.ISO_8859_1)) {
            number++;
            String told = line.strip();
            if (told.isEmpty() || told.startsWith("#")) {
                continue;
            }
            if (told.startsWith("==")) {
                String title = told.substring(2).strip();
                if (!titles.add(title)) {
                    tellWrong(file + ":" + number + ": told again: " + title);
                }
                promises.add(Integer.parseInt(title.substring(0, title.indexOf(' '))));
                run = new Run(file + ", promise " + title);
                runs++;
            } else if (told.startsWith("let ")) {
                String[] parts = told.split(" ", 3);
                texts.put(parts[1], unquoted(parts[2], texts));
            } else if (run == null) {
                throw new IllegalStateException(file + ":" + number + ": no run is begun");
            } else {
                run.line(told, texts);
            }
        }
    }

    /** Texts in quotes, names of texts told by let, joined by +; \hh in quotes is a byte. */
    private static String unquoted(String told, Map<String, String> texts) {
        StringBuilder all = new StringBuilder();
        Matcher part = Pattern.compile("\\s*(?:\"([^\"]*)\"|([A-Z_]+))\\s*(?:\\+|$)").matcher(told);
        int from = 0;
        while (from < told.length()) {
            if (!part.find(from) || part.start() != from) {
                throw new IllegalStateException("no text: " + told);
            }
            from = part.end();
            if (part.group(1) == null) {
                all.append(Objects.requireNonNull(texts.get(part.group(2)), part.group(2)));
                continue;
            }
            Matcher sign = Pattern.compile("\\\\(..)|(.)").matcher(part.group(1));
            while (sign.find()) {
                all.append(sign.group(1) != null ? (char) Integer.parseInt(sign.group(1), 16)
                        : sign.group(2).charAt(0));
            }
        }
        return all.toString();
    }

    private static int number(String told) {
        return switch (told) {
            case "MIN" -> Integer.MIN_VALUE;
            case "MAX" -> Integer.MAX_VALUE;
            case "NONE" -> -1;
            default -> Long.decode(told).intValue();
        };
    }

    private record Call(String name, int... args) {
        static Call of(String name, String args) {
            return new Call(name, args.isBlank() ? new int[0]
                    : Arrays.stream(args.split(",")).map(String::strip).mapToInt(HeardVotesBounds::number).toArray());
        }

        static List<Call> allOf(String told) {
            List<Call> all = new ArrayList<>();
            Matcher call = Pattern.compile("(\\w+)\\(([^)]*)\\)").matcher(told);
            while (call.find()) {
                all.add(of(call.group(1), call.group(2)));
            }
            return all;
        }

        boolean isNumbered() {
            return !UNNUMBERED.contains(name);
        }

        @Override
        public String toString() {
            String all = Arrays.toString(args);
            return name + "(" + all.substring(1, all.length() - 1) + ")";
        }
    }

    /** What is due of a call: its answer, TROUBLE, the FAULT and its place. */
    private record Due(String answer, int trouble, int fault, int place) {
        static Due answer(String told) {
            return new Due(told.equals("true") || told.equals("false") ? told : String.valueOf(number(told)), 0, 0, -1);
        }

        static Due refused(Call call, int number) {
            boolean isBoolean = FACE.get(call.name).getReturnType() == boolean.class;
            return new Due(isBoolean ? "false" : NONE, number, 0, -1);
        }

        static Due fault(int fault, int place) {
            return new Due(NONE, 4, fault, place);
        }

        static Due thrown() {
            return new Due("throws.NoSuchElementException", 0, 0, -1);
        }

        boolean isRefused() {
            return trouble != 0;
        }
    }

    /** One object, with a count of its calls: behind the 512th nothing is promised. */
    private static final class Speaker {
        private final HeardVotes object = new HeardVotes();
        private int calls = 0;
        private int pictureFrom = 0;

        String ask(Call call) {
            calls++;
            asked++;
            if (calls > MOST_CALLS) {
                throw new IllegalStateException("a run that is too long, at " + call);
            }
            Object[] given = new Object[call.args.length];
            for (int k = 0; k < given.length; k++) {
                given[k] = call.args[k];
            }
            try {
                return String.valueOf(FACE.get(call.name).invoke(object, given));
            } catch (InvocationTargetException e) {
                return "throws." + e.getCause().getClass().getSimpleName();
            } catch (IllegalAccessException e) {
                throw new IllegalStateException(e);
            }
        }

        String ask(String name, int... args) {
            return ask(new Call(name, args));
        }

        int number(String name, int... args) {
            return Integer.parseInt(ask(name, args));
        }

        void beginPicture() {
            pictureFrom = calls;
        }

        boolean hasRoom() {
            return calls - pictureFrom < PICTURE_CALLS;
        }
    }

    // ---- how a run goes

    private static final class Run {
        private final String title;
        private final Speaker speaker = new Speaker();
        private final List<Call> made = new ArrayList<>();
        /** What came to THE TAPE since it was empty. */
        private final List<Call> fed = new ArrayList<>();
        private int trouble = 0;
        private int place = -1;
        private int fault = 0;

        Run(String title) {
            this.title = title;
        }

        private void due(String what, String got, String want) {
            if (!got.equals(want)) {
                tellWrong(title + ": " + what + " answered " + got + ", due is " + want + "\n   behind "
                        + made.subList(Math.max(0, made.size() - 20), made.size()));
            }
        }

        void line(String told, Map<String, String> texts) {
            Matcher text = Pattern.compile("(put|fill|tell) (.*?)( = .*| fault .*)?").matcher(told);
            Matcher calls = Pattern.compile("(\\w+\\([^)]*\\)[, ]*)+( .*)").matcher(told);
            if (text.matches()) {
                textLine(text.group(1), unquoted(text.group(2), texts), text.group(3));
            } else if (told.startsWith("written ")) {
                written(unquoted(told.substring(8), texts));
            } else if (told.startsWith("steps ")) {
                steps(told.split("[ =]+"));
            } else if (calls.matches()) {
                String want = told.substring(told.lastIndexOf(')') + 1).strip();
                for (Call call : Call.allOf(told)) {
                    make(call, dueOf(call, want));
                }
            } else {
                throw new IllegalStateException(title + ": what is this: " + told);
            }
        }

        private static Due dueOf(Call call, String want) {
            String[] parts = want.split(" +");
            return switch (parts[0]) {
                case "=" -> Due.answer(parts[1]);
                case "refused" -> Due.refused(call, number(parts[1]));
                case "fault" -> Due.fault(number(parts[1]), number(parts[3]));
                case "throws" -> Due.thrown();
                default -> throw new IllegalStateException("what is due: " + want);
            };
        }

        private void textLine(String verb, String text, String want) {
            String all = verb.equals("fill") ? text + " ".repeat(600 - text.length()) : text;
            for (Call feed : feeds(all)) {
                fed.add(feed);
                made.add(feed);
                due(feed.toString(), speaker.ask(feed), String.valueOf(20 * fed.size()));
            }
            if (verb.equals("tell")) {
                Call call = new Call("text", text.length());
                make(call, dueOf(call, want.strip()));
            }
        }

        /** write(), and all that is written then; behind it there is nothing. */
        private void written(String text) {
            make(new Call("write"), Due.answer(String.valueOf(text.length())));
            for (int k = 0; k < text.length(); k++) {
                due("octet(" + k + ")", speaker.ask("octet", k), String.valueOf((int) text.charAt(k)));
            }
            make(new Call("octet", text.length()), Due.thrown());
        }

        /** All steps of a WAY; behind them -2. */
        private void steps(String[] told) {
            int h = number(told[1]);
            for (int k = 0; k < told[2].length(); k++) {
                make(new Call("way", h, k), Due.answer(told[2].substring(k, k + 1)));
            }
            make(new Call("way", h, told[2].length()), Due.answer("-2"));
        }

        private void make(Call call, Due due) {
            due(call.toString(), speaker.ask(call), due.answer);
            if (call.isNumbered()) {
                trouble = due.trouble;
                place = due.place;
            }
            if (call.name.equals("text") && due.trouble != 2) {
                fault = due.fault;
            }
            due("trouble() behind " + call, speaker.ask("trouble"), String.valueOf(trouble));
            due("where() behind " + call, speaker.ask("where"), String.valueOf(place));
            due("fault() behind " + call, speaker.ask("fault"), String.valueOf(fault));
            lookFurther(call, due);
            made.add(call);
            if (call.name.equals("feed") && !due.answer.equals(NONE)) {
                fed.add(call);
            } else if (call.name.equals("text") && due.trouble != 2) {
                fed.clear();
            }
        }

        private void lookFurther(Call call, Due due) {
            boolean isText = call.name.equals("text");
            if (isText && !due.isRefused()) {
                likeNew(call);
            } else if (isText && due.trouble == 4) {
                sameBut(call, "by 4", Part.STATE, Part.NET, Part.PAPER, Part.UNDONE, Part.WRITTEN);
                due("size() behind " + call, speaker.ask("size"), "0");
            } else if (due.isRefused()) {
                sameBut(call, "refused", Part.values());
            } else if (ACTS.contains(call.name)) {
                undone(call);
            } else if (!CHANGERS.contains(call.name)) {
                sameBut(call, "asked", Part.values());
            }
            if (!isText && !call.name.equals("feed")) {
                behindFault(call, due);
            }
        }

        private List<Call> with(Call... more) {
            List<Call> all = new ArrayList<>(made);
            all.addAll(Arrays.asList(more));
            return all;
        }

        /** Whether a call changes what the object answers, but trouble(), where(). */
        private void sameBut(Call call, String why, Part... parts) {
            for (Part part : parts) {
                same(call + ", " + why + ", changes nothing", part.of(with(call)), part.of(made));
            }
        }

        private void undone(Call call) {
            int before = Part.actsOf(made);
            due("about(6) behind " + call, String.valueOf(Part.actsOf(with(call))),
                    String.valueOf(Math.min(before + 1, 10)));
            List<Call> back = with(call, new Call("undo"));
            for (Part part : Part.values()) {
                if (part != Part.UNDONE || before < 10) {
                    same(call + " undone", part.of(back), part.of(made));
                }
            }
        }

        /** A TEXT told to an object of any past, and to a new one. */
        private void likeNew(Call text) {
            List<Call> anew = new ArrayList<>(fed);
            anew.add(text);
            for (Part part : List.of(Part.STATE, Part.NET, Part.PAPER, Part.UNDONE, Part.TAPE)) {
                same("all that there was is gone by " + text, part.of(with(text)), part.of(anew));
            }
        }

        /** A call behind a FAULT (at byte 0): those that may be refused take its place away, others don't. */
        private void behindFault(Call call, Due due) {
            Speaker other = replayed(with(new Call("text", 0)));
            String got = other.ask(call);
            if (call.isNumbered()) {
                due(call + " behind a FAULT", got, due.answer);
            }
            due("trouble() of " + call + " behind a FAULT", other.ask("trouble"),
                    call.isNumbered() ? String.valueOf(due.trouble) : "4");
            due("where() of " + call + " behind a FAULT", other.ask("where"), call.isNumbered() ? NONE : "0");
            due("fault() of " + call + " behind a FAULT", other.ask("fault"), "1");
        }

        private void same(String what, List<String> got, List<String> want) {
            for (int k = 0; k < Math.min(got.size(), want.size()); k++) {
                if (!got.get(k).equals(want.get(k))) {
                    due(what + ": " + want.get(k).replaceAll(" .*", ""), got.get(k), want.get(k));
                    return;
                }
            }
            due(what + ": how many answers", String.valueOf(got.size()), String.valueOf(want.size()));
        }
    }

    private static List<Call> feeds(String text) {
        byte[] bytes = text.getBytes(StandardCharsets.ISO_8859_1);
        List<Call> all = new ArrayList<>();
        for (int from = 0; from < bytes.length; from += 20) {
            int[] five = new int[5];
            for (int k = 0; k < 20; k++) {
                five[k / 4] = five[k / 4] << 8 | (from + k < bytes.length ? bytes[from + k] & 255 : 32);
            }
            all.add(new Call("feed", five));
        }
        return all;
    }

    private static Speaker replayed(List<Call> calls) {
        Speaker speaker = new Speaker();
        for (Call call : calls) {
            speaker.ask(call);
        }
        return speaker;
    }

    /** All that an object answers, in parts, each of an object of its own, since 512 calls are few. */
    private enum Part {
        STATE {
            @Override
            void picture(Speaker of, List<String> to) {
                for (int what = 0; what < 8; what++) {
                    if (what != 6) {
                        note(of, to, "about", what);
                    }
                }
                int hearings = of.number("about", 0);
                for (int h = 0; h < hearings && of.hasRoom(); h++) {
                    for (int what = 0; what < 5; what++) {
                        note(of, to, "hearing", h, what);
                    }
                    int words = of.number("hearing", h, 1);
                    for (int i = 0; i < words && of.hasRoom(); i++) {
                        note(of, to, "word", h, i, 0);
                        note(of, to, "word", h, i, 1);
                        note(of, to, "word", h, i, 2);
                    }
                    note(of, to, "between", h, 0);
                }
            }
        },
        NET {
            @Override
            void picture(Speaker of, List<String> to) {
                int slots = of.number("about", 3);
                int hearings = of.number("about", 0);
                for (int s = 0; s < slots && of.hasRoom(); s++) {
                    for (int what = 0; what < 8; what++) {
                        note(of, to, "slot", s, what);
                    }
                    for (int h = 0; h < hearings; h++) {
                        note(of, to, "at", s, h);
                    }
                    note(of, to, "choice", s, 0, 1);
                    note(of, to, "choice", s, 1, 0);
                    note(of, to, "doubt", s, 0);
                    note(of, to, "doubt", s, 1);
                    note(of, to, "doubtful", s);
                    note(of, to, "heard", s, 1);
                }
            }
        },
        PAPER {
            @Override
            void picture(Speaker of, List<String> to) {
                int hearings = of.number("about", 0);
                note(of, to, "best", -1);
                for (int h = 0; h < hearings; h++) {
                    note(of, to, "best", h);
                    note(of, to, "cost", h);
                    note(of, to, "without", h);
                    note(of, to, "errors", h);
                }
                int words = of.number("about", 1);
                for (int w = 0; w < words && of.hasRoom(); w++) {
                    note(of, to, "far", w, 0);
                    for (int k = 0; k < 6; k++) {
                        note(of, to, "letter", w, k);
                    }
                }
                note(of, to, "write");
                for (int k = 0; of.hasRoom() && !to.get(to.size() - 1).contains("throws"); k++) {
                    note(of, to, "octet", k);
                }
            }
        },
        UNDONE {
            @Override
            void picture(Speaker of, List<String> to) {
                int hearings = of.number("about", 0);
                note(of, to, "about", 6);
                for (int k = 0; k < 10; k++) {
                    note(of, to, "undo");
                    for (int what = 2; what < 6; what++) {
                        note(of, to, "about", what);
                    }
                    for (int h = 0; h < hearings && of.hasRoom(); h++) {
                        note(of, to, "hearing", h, 0);
                        note(of, to, "cost", h);
                    }
                    note(of, to, "slot", 0, 3);
                }
            }
        },
        TAPE {
            @Override
            void picture(Speaker of, List<String> to) {
                note(of, to, "size");
                note(of, to, "text", of.number("size"));
                note(of, to, "fault");
                note(of, to, "where");
                STATE.picture(of, to);
            }
        },
        WRITTEN {
            @Override
            void picture(Speaker of, List<String> to) {
                note(of, to, "octet", 0);
                for (int k = 1; of.hasRoom() && !to.get(to.size() - 1).contains("throws"); k++) {
                    note(of, to, "octet", k);
                }
            }
        };

        abstract void picture(Speaker of, List<String> to);

        List<String> of(List<Call> calls) {
            Speaker speaker = replayed(calls);
            speaker.beginPicture();
            List<String> all = new ArrayList<>();
            picture(speaker, all);
            return all;
        }

        static int actsOf(List<Call> calls) {
            return replayed(calls).number("about", 6);
        }

        static void note(Speaker of, List<String> to, String name, int... args) {
            Call call = new Call(name, args);
            to.add(call + " = " + of.ask(call));
        }
    }
}
