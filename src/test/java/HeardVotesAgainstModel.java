import java.lang.reflect.InvocationTargetException;
import java.lang.reflect.Method;
import java.math.BigInteger;
import java.nio.charset.StandardCharsets;
import java.util.ArrayDeque;
import java.util.ArrayList;
import java.util.Arrays;
import java.util.Comparator;
import java.util.Deque;
import java.util.HashMap;
import java.util.HashSet;
import java.util.List;
import java.util.Map;
import java.util.NoSuchElementException;
import java.util.Random;
import java.util.Set;
import java.util.TreeMap;

/**
 * Runs of calls made by a random source of fixed seed, each answered by HeardVotes and by a model
 * that was written from the document anew, in the dullest way: whole ways compared as texts, all
 * orders gone through from scratch, big numbers, copies of all that there is for undo().
 */
public final class HeardVotesAgainstModel {
    private static final int RUNS = 1000;
    private static final int CALLS = 480;
    private static final int MOST_TOLD = 20;

    private static int wrong = 0;

    public static void main(String[] args) throws Exception {
        long calls = 0;
        for (int run = 0; run < RUNS && wrong < MOST_TOLD; run++) {
            calls += new Run(run).go();
        }
        System.out.println(calls + " calls against the model, " + wrong + " answers are not as due");
        if (wrong != 0) {
            System.exit(1);
        }
    }

    /** One object and one model, and the calls that both got. */
    private static final class Run {
        private final int number;
        private final Random random;
        private final HeardVotes real = new HeardVotes();
        private final Model model = new Model();
        private final List<String> log = new ArrayList<>();
        private int count = 0;

        Run(int number) {
            this.number = number;
            this.random = new Random(7919L * number + 17);
        }

        int go() throws Exception {
            int dice = random.nextInt(10);
            if (dice < 2) {
                tell(Texts.full(random));
            } else if (dice < 9) {
                tell(Texts.good(random));
            }
            while (count < CALLS && wrong < MOST_TOLD) {
                step();
            }
            return count;
        }

        private void step() throws Exception {
            int dice = random.nextInt(1000);
            if (dice < 6) {
                tell(Texts.good(random));
            } else if (dice < 14) {
                tell(Texts.broken(random));
            } else if (dice < 17) {
                tell(Texts.noise(random));
            } else if (dice < 19) {
                overfeed();
            } else if (dice < 400) {
                act();
            } else {
                ask();
            }
        }

        private void tell(String text) throws Exception {
            byte[] bytes = text.getBytes(StandardCharsets.ISO_8859_1);
            for (int from = 0; from < bytes.length; from += 20) {
                int[] five = new int[5];
                for (int k = 0; k < 20; k++) {
                    int octet = from + k < bytes.length ? bytes[from + k] & 255 : random.nextInt(256);
                    five[k / 4] = five[k / 4] << 8 | octet;
                }
                call("feed", five);
            }
            call("text", random.nextInt(30) == 0 ? random.nextInt(700) - 50 : bytes.length);
        }

        private void overfeed() throws Exception {
            int times = 25 + random.nextInt(8);
            for (int k = 0; k < times; k++) {
                call("feed", random.nextInt(), random.nextInt(), random.nextInt(), random.nextInt(),
                        random.nextInt());
            }
            call("text", random.nextInt(4) == 0 ? 601 : random.nextInt(620));
        }

        private void act() throws Exception {
            switch (random.nextInt(16)) {
                case 0 -> call("costs", near(1, 9), near(1, 9), near(0, 9));
                case 1 -> call("window", random.nextBoolean() ? near(0, 40) : near(0, 999));
                case 2, 3 -> call("share", random.nextBoolean() ? near(0, 200) : 50 * random.nextInt(5));
                case 4, 5 -> call("weight", hearing(), random.nextBoolean() ? near(1, 5) : near(1, 99));
                case 6, 7, 8, 9 -> call("join", hearing());
                case 10 -> call("joinAll", near(0, 2));
                case 11, 12 -> call("drop", hearing());
                case 13 -> call("weigh");
                default -> call("undo");
            }
        }

        private void ask() throws Exception {
            switch (random.nextInt(24)) {
                case 0 -> call("about", near(0, 7));
                case 1, 2 -> call("hearing", hearing(), near(0, 4));
                case 3 -> call("word", hearing(), near(0, 11), near(0, 2));
                case 4 -> call("letter", near(0, 30), near(0, 6));
                case 5 -> call("far", near(0, 30), near(0, 30));
                case 6 -> call("between", hearing(), hearing());
                case 7, 8, 9 -> call("slot", slot(), near(0, 7));
                case 10 -> call("at", slot(), hearing());
                case 11, 12 -> call("choice", slot(), near(0, 2), near(0, 3));
                case 13, 14 -> call("doubt", slot(), near(0, 1));
                case 15 -> call("doubtful", slot());
                case 16 -> call("heard", slot(), near(0, 2));
                case 17 -> call("errors", hearing());
                case 18 -> call("cost", hearing());
                case 19, 20 -> call("way", hearing(), near(0, 20));
                case 21 -> call("without", hearing());
                case 22 -> {
                    if (random.nextInt(6) == 0) {
                        call("best", near(-1, 4));
                    }
                }
                default -> {
                    call("write");
                    for (int k = 0; k < 6; k++) {
                        call("octet", random.nextBoolean() ? k : near(0, 60));
                    }
                }
            }
        }

        private int hearing() {
            return near(0, 4);
        }

        private int slot() {
            return near(0, Math.max(0, model.state.slots.size() - 1));
        }

        /** Mostly within, now and then at the very edge, one beyond, or far out. */
        private int near(int least, int most) {
            return switch (random.nextInt(40)) {
                case 0 -> least - 1;
                case 1 -> most + 1;
                case 2 -> least;
                case 3 -> most;
                case 4 -> random.nextBoolean() ? random.nextInt() : random.nextBoolean()
                        ? Integer.MAX_VALUE : Integer.MIN_VALUE;
                default -> least + random.nextInt(most - least + 1);
            };
        }

        private void call(String name, int... args) throws Exception {
            count++;
            String got = answer(real, name, args) + after(real);
            String want = answer(model, name, args) + after(model);
            log.add(name + Arrays.toString(args) + " = " + got);
            if (!got.equals(want)) {
                wrong++;
                System.out.println("run " + number + ": " + name + Arrays.toString(args) + " answered " + got
                        + ", due is " + want + "\n   behind " + log);
            }
        }

        /** What may be asked without changing anything. */
        private static String after(Object of) throws Exception {
            return " (trouble, where, fault, size: " + answer(of, "trouble") + " " + answer(of, "where") + " "
                    + answer(of, "fault") + " " + answer(of, "size") + ")";
        }

        private static String answer(Object of, String name, int... args) throws Exception {
            Class<?>[] types = new Class<?>[args.length];
            Arrays.fill(types, int.class);
            Object[] given = new Object[args.length];
            for (int k = 0; k < args.length; k++) {
                given[k] = args[k];
            }
            Method method = of.getClass().getMethod(name, types);
            try {
                return String.valueOf(method.invoke(of, given));
            } catch (InvocationTargetException e) {
                return "throws." + e.getCause().getClass().getSimpleName();
            }
        }
    }

    private static final class Texts {
        private static final String[] SPEECH = {
            "the", "cat", "sat", "on", "that", "mat", "weight", "a", "bat", "rabbit", "at", "ten", "hat", "rabat"};

        private Texts() {
        }

        static String good(Random random) {
            int hearings = 1 + random.nextInt(5);
            boolean isTight = random.nextInt(4) == 0;
            int most = hearings > 3 ? 9 : 12;
            List<String> speech = new ArrayList<>();
            int length = 1 + random.nextInt(most);
            for (int k = 0; k < length; k++) {
                speech.add(SPEECH[random.nextInt(SPEECH.length)]);
            }
            List<String> names = new ArrayList<>(List.of("x", "y", "weight", "ab", "zzzzzz", "q"));
            StringBuilder text = new StringBuilder();
            for (int h = 0; h < hearings; h++) {
                if (h > 0) {
                    text.append(gap(random, isTight)).append(";").append(gap(random, isTight));
                }
                text.append(names.remove(random.nextInt(names.size()))).append(" ").append("weight");
                text.append(gap(random, isTight)).append(1 + random.nextInt(random.nextBoolean() ? 3 : 99));
                text.append(gap(random, isTight)).append(":").append(gap(random, isTight));
                text.append(words(random, speech, isTight));
            }
            return text.length() <= 600 ? text.toString() : "x weight 1: a 1";
        }

        /** As much as can be told: five HEARINGS of twelve words, few of them near others. */
        static String full(Random random) {
            StringBuilder text = new StringBuilder();
            boolean isAlike = random.nextBoolean();
            for (int h = 0; h < 5; h++) {
                text.append(h > 0 ? ";" : "").append((char) ('a' + h)).append(" weight").append(1 + random.nextInt(99));
                text.append(":");
                int time = random.nextInt(3);
                for (int k = 0; k < 12; k++) {
                    for (int letter = 0; letter < 3; letter++) {
                        text.append((char) ('a' + random.nextInt(isAlike ? 2 : 26)));
                    }
                    text.append(time);
                    time += 1 + random.nextInt(60);
                }
            }
            return text.toString();
        }

        private static String words(Random random, List<String> speech, boolean isTight) {
            List<String> heard = new ArrayList<>();
            for (String word : speech) {
                int dice = random.nextInt(10);
                if (dice < 7) {
                    heard.add(word);
                } else if (dice == 7) {
                    heard.add(changed(random, word));
                } else if (dice == 8) {
                    heard.add(SPEECH[random.nextInt(SPEECH.length)]);
                    heard.add(word);
                }
            }
            if (heard.isEmpty()) {
                heard.add("a");
            }
            StringBuilder text = new StringBuilder();
            int time = random.nextInt(5);
            for (int k = 0; k < Math.min(12, heard.size()); k++) {
                text.append(heard.get(k)).append(gap(random, isTight)).append(time).append(gap(random, isTight));
                time += 1 + random.nextInt(random.nextInt(5) == 0 ? 60 : 15);
            }
            return text.toString();
        }

        private static String changed(Random random, String word) {
            int k = random.nextInt(word.length());
            char letter = (char) ('a' + random.nextInt(26));
            return word.substring(0, k) + letter + word.substring(k + 1);
        }

        private static String gap(Random random, boolean isTight) {
            return isTight ? "" : random.nextInt(20) == 0 ? "  " : " ";
        }

        /** A good text in which a few bytes were put in, taken out, or changed. */
        static String broken(Random random) {
            String signs = "a;:0 9?Zweight" + (char) 0 + (char) 200;
            StringBuilder text = new StringBuilder(good(random));
            for (int times = 1 + random.nextInt(2); times > 0; times--) {
                int k = random.nextInt(text.length());
                char sign = signs.charAt(random.nextInt(signs.length()));
                switch (random.nextInt(5)) {
                    case 0 -> text.deleteCharAt(k);
                    case 1 -> text.insert(k, sign);
                    case 2 -> text.setLength(k + 1);
                    case 3 -> text.append(";").append(good(random));
                    default -> text.setCharAt(k, sign);
                }
            }
            return text.length() <= 600 ? text.toString() : text.substring(0, 600);
        }

        /** Rows of tokens, most of which say nothing. */
        static String noise(Random random) {
            String[] tokens = {"weight", "x", "y", "0", "1", "99", "100", "999", "1000", ";", ":", " ", "abcdefg",
                "abcdef", "x weight 1", "x weight 1: a 0", "y weight 2:b 3c4d 5", "z weight 100", "u weight 0",
                "a0b1c2d3e4f5g6h7i8j9k10l11", "m12"};
            StringBuilder text = new StringBuilder();
            int many = 1 + random.nextInt(5);
            for (int k = 0; k < many; k++) {
                text.append(tokens[random.nextInt(tokens.length)]).append(random.nextBoolean() ? " " : "");
            }
            return text.toString();
        }
    }

    /** The document, said again. */
    public static final class Model {
        private static final int GAP = -2;

        private record Token(char kind, int start, String text) { }

        private record Heard(String word, int number, int time) { }

        private record Way(int cost, String steps) { }

        private record Choice(int word, int points) { }

        private record Place(int word, int time, int slot) { }

        private record Order(int cost, List<Integer> hearings) { }

        private static final class Fault extends Exception {
            private static final long serialVersionUID = 1L;
            final int number;
            final int place;

            Fault(int number, int place) {
                this.number = number;
                this.place = place;
            }
        }

        private static final class State {
            int fresh = 3;
            int gap = 3;
            int nearest = 4;
            int window = 999;
            int share = 100;
            final List<Integer> weights = new ArrayList<>();
            final List<Integer> order = new ArrayList<>();
            final Map<Integer, Integer> costs = new HashMap<>();
            final List<Map<Integer, Integer>> slots = new ArrayList<>();

            State copy() {
                State other = new State();
                other.fresh = fresh;
                other.gap = gap;
                other.nearest = nearest;
                other.window = window;
                other.share = share;
                other.weights.addAll(weights);
                other.order.addAll(order);
                other.costs.putAll(costs);
                for (Map<Integer, Integer> slot : slots) {
                    other.slots.add(new TreeMap<>(slot));
                }
                return other;
            }

            State begunAnew() {
                State other = copy();
                other.order.clear();
                other.costs.clear();
                other.slots.clear();
                return other;
            }
        }

        private final StringBuilder tape = new StringBuilder();
        private List<List<Heard>> speech = null;
        private List<String> words = new ArrayList<>();
        private State state = new State();
        private final Deque<State> past = new ArrayDeque<>();
        private String written = "";
        private int trouble = 0;
        private int where = -1;
        private int fault = 0;

        private int no(int number) {
            trouble = number;
            where = -1;
            return -1;
        }

        private int yes(int answer) {
            trouble = 0;
            where = -1;
            return answer;
        }

        public int feed(int a, int b, int c, int d, int e) {
            if (tape.length() + 20 > 600) {
                return -1;
            }
            for (int number : new int[] {a, b, c, d, e}) {
                for (byte octet : BigInteger.valueOf(number & 0xFFFFFFFFL | 1L << 40).toByteArray()) {
                    tape.append((char) (octet & 255));
                }
                // the two highest bytes are of the bit that keeps the leading ones
                tape.delete(tape.length() - 6, tape.length() - 4);
            }
            return tape.length();
        }

        public int text(int n) {
            if (n < 0 || n > tape.length()) {
                return no(2);
            }
            String told = tape.substring(0, n);
            tape.setLength(0);
            try {
                parse(told);
            } catch (Fault f) {
                no(4);
                fault = f.number;
                where = f.place;
                return -1;
            }
            fault = 0;
            past.clear();
            return yes(speech.size());
        }

        private static List<Token> tokens(String told) {
            List<Token> all = new ArrayList<>();
            int k = 0;
            while (k < told.length()) {
                String rest = told.substring(k);
                String part = rest.replaceAll("(?s)^([a-z]+|[0-9]+|.).*", "$1");
                char kind = part.matches("[a-z]{1,6}") ? 'w' : part.matches("[0-9]{1,3}") ? 'n'
                        : part.matches("[;:]") ? part.charAt(0) : '?';
                if (!part.equals(" ")) {
                    all.add(new Token(kind, k, part));
                }
                k += part.length();
            }
            all.add(new Token('.', told.length(), ""));
            return all;
        }

        private void parse(String told) throws Fault {
            List<Token> all = tokens(told);
            List<List<Heard>> lines = new ArrayList<>();
            List<String> found = new ArrayList<>();
            List<Integer> weights = new ArrayList<>();
            Set<String> names = new HashSet<>();
            int k = 0;
            while (true) {
                Token name = need(all.get(k++), 'w');
                if (!names.add(name.text)) {
                    throw new Fault(3, name.start);
                }
                if (names.size() == 6) {
                    throw new Fault(4, name.start);
                }
                Token sign = need(all.get(k++), 'w');
                if (!sign.text.equals("weight")) {
                    throw new Fault(1, sign.start);
                }
                Token weight = need(all.get(k++), 'n');
                if (Integer.parseInt(weight.text) < 1 || Integer.parseInt(weight.text) > 99) {
                    throw new Fault(2, weight.start);
                }
                weights.add(Integer.parseInt(weight.text));
                need(all.get(k++), ':');
                List<Heard> line = new ArrayList<>();
                do {
                    Token word = need(all.get(k++), 'w');
                    if (line.size() == 12) {
                        throw new Fault(4, word.start);
                    }
                    Token time = need(all.get(k++), 'n');
                    int at = Integer.parseInt(time.text);
                    if (!line.isEmpty() && line.get(line.size() - 1).time >= at) {
                        throw new Fault(2, time.start);
                    }
                    if (!found.contains(word.text)) {
                        found.add(word.text);
                    }
                    line.add(new Heard(word.text, found.indexOf(word.text), at));
                } while (all.get(k).kind == 'w');
                lines.add(line);
                if (all.get(k).kind == '.') {
                    break;
                }
                need(all.get(k++), ';');
            }
            speech = lines;
            words = found;
            state = new State();
            state.weights.addAll(weights);
        }

        private static Token need(Token token, char kind) throws Fault {
            if (token.kind != kind) {
                throw new Fault(1, token.start);
            }
            return token;
        }

        public int fault() {
            return fault;
        }

        public int where() {
            return where;
        }

        private boolean isHearing(int h) {
            return speech != null && h >= 0 && h < speech.size();
        }

        private boolean isWord(int w) {
            return w >= 0 && w < words.size();
        }

        private boolean isSlot(int s) {
            return s >= 0 && s < state.slots.size();
        }

        public int about(int what) {
            if (speech == null || what < 0 || what > 7) {
                return no(1);
            }
            int costs = state.order.stream().mapToInt(h -> state.costs.get(h)).sum();
            int weights = state.order.stream().mapToInt(h -> state.weights.get(h)).sum();
            return yes(new int[] {speech.size(), words.size(), state.order.size(), state.slots.size(),
                heardOf(state).size(), costs, past.size(), weights}[what]);
        }

        public int hearing(int h, int what) {
            if (!isHearing(h) || what < 0 || what > 4) {
                return no(1);
            }
            boolean isIn = state.order.contains(h);
            return yes(new int[] {state.weights.get(h), speech.get(h).size(), isIn ? state.order.indexOf(h) : -2,
                isIn ? state.costs.get(h) : -2, isIn ? winners(h) : -2}[what]);
        }

        private int winners(int h) {
            int many = 0;
            for (Map<Integer, Integer> slot : state.slots) {
                if (slot.containsKey(h)
                        && speech.get(h).get(slot.get(h)).number == choices(state, slot).get(0).word) {
                    many++;
                }
            }
            return many;
        }

        public int word(int h, int i, int what) {
            if (!isHearing(h) || i < 0 || i >= speech.get(h).size() || what < 0 || what > 2) {
                return no(1);
            }
            int slot = -2;
            for (int s = 0; s < state.slots.size(); s++) {
                if (Integer.valueOf(i).equals(state.slots.get(s).get(h))) {
                    slot = s;
                }
            }
            return yes(new int[] {speech.get(h).get(i).number, speech.get(h).get(i).time, slot}[what]);
        }

        public int letter(int w, int k) {
            if (!isWord(w) || k < 0) {
                return no(1);
            }
            return yes(k < words.get(w).length() ? words.get(w).charAt(k) - 'a' : -2);
        }

        private static int changes(List<?> a, List<?> b) {
            int[][] table = new int[a.size() + 1][b.size() + 1];
            for (int i = 0; i <= a.size(); i++) {
                for (int j = 0; j <= b.size(); j++) {
                    if (i == 0 || j == 0) {
                        table[i][j] = i + j;
                    } else {
                        int put = table[i - 1][j - 1] + (a.get(i - 1).equals(b.get(j - 1)) ? 0 : 1);
                        table[i][j] = Math.min(put, 1 + Math.min(table[i - 1][j], table[i][j - 1]));
                    }
                }
            }
            return table[a.size()][b.size()];
        }

        private static int farOf(String a, String b) {
            return changes(a.chars().boxed().toList(), b.chars().boxed().toList());
        }

        private List<Integer> numbers(int h) {
            return speech.get(h).stream().map(Heard::number).toList();
        }

        private static List<Integer> numbers(List<Place> heard) {
            return heard.stream().map(Place::word).toList();
        }

        public int far(int w, int v) {
            return isWord(w) && isWord(v) ? yes(farOf(words.get(w), words.get(v))) : no(1);
        }

        public int between(int h, int g) {
            return isHearing(h) && isHearing(g) ? yes(changes(numbers(h), numbers(g))) : no(1);
        }

        private State act() {
            past.addLast(state.copy());
            if (past.size() > 10) {
                past.removeFirst();
            }
            yes(0);
            return state;
        }

        private boolean may(boolean isWithin) {
            if (speech == null) {
                no(1);
                return false;
            }
            if (!isWithin) {
                no(2);
                return false;
            }
            return true;
        }

        public boolean costs(int fresh, int gap, int nearest) {
            if (!may(fresh >= 1 && fresh <= 9 && gap >= 1 && gap <= 9 && nearest >= 0 && nearest <= 9)) {
                return false;
            }
            act();
            state.fresh = fresh;
            state.gap = gap;
            state.nearest = nearest;
            return true;
        }

        public boolean window(int v) {
            if (!may(v >= 0 && v <= 999)) {
                return false;
            }
            act().window = v;
            return true;
        }

        public boolean share(int v) {
            if (!may(v >= 0 && v <= 200)) {
                return false;
            }
            act().share = v;
            return true;
        }

        public int weight(int h, int v) {
            if (!isHearing(h)) {
                return no(1);
            }
            if (v < 1 || v > 99) {
                return no(2);
            }
            return act().weights.set(h, v);
        }

        private int timeOf(State in, Map<Integer, Integer> slot, int word) {
            long above = 0;
            long below = 0;
            for (Map.Entry<Integer, Integer> one : slot.entrySet()) {
                Heard heard = speech.get(one.getKey()).get(one.getValue());
                if (word < 0 || heard.number == word) {
                    above += (long) in.weights.get(one.getKey()) * heard.time;
                    below += in.weights.get(one.getKey());
                }
            }
            return (int) Math.floorDiv(above, below);
        }

        private int match(State in, Heard word, Map<Integer, Integer> slot) {
            int least = in.nearest;
            for (Map.Entry<Integer, Integer> one : slot.entrySet()) {
                least = Math.min(least, farOf(word.word, speech.get(one.getKey()).get(one.getValue()).word));
            }
            return least + (Math.abs(word.time - timeOf(in, slot, -1)) > in.window ? 1 : 0);
        }

        /** The least cost; of like ones the way that, as a text of 0, 1, 2, is the first in order. */
        private Way wayFrom(State in, int h, int i, int s, Map<Integer, Way> known) {
            Way has = known.get(i * 100 + s);
            if (has != null) {
                return has;
            }
            List<Way> ways = new ArrayList<>();
            boolean hasWord = i < speech.get(h).size();
            boolean hasSlot = s < in.slots.size();
            if (!hasWord && !hasSlot) {
                ways.add(new Way(0, ""));
            }
            if (hasWord) {
                Way rest = wayFrom(in, h, i + 1, s, known);
                ways.add(new Way(rest.cost + in.fresh, "2" + rest.steps));
            }
            if (hasSlot) {
                Way rest = wayFrom(in, h, i, s + 1, known);
                ways.add(new Way(rest.cost + in.gap, "1" + rest.steps));
            }
            if (hasWord && hasSlot) {
                Way rest = wayFrom(in, h, i + 1, s + 1, known);
                ways.add(new Way(rest.cost + match(in, speech.get(h).get(i), in.slots.get(s)), "0" + rest.steps));
            }
            ways.sort(Comparator.comparingInt(Way::cost).thenComparing(Way::steps));
            known.put(i * 100 + s, ways.get(0));
            return ways.get(0);
        }

        private Way wayOf(State in, int h) {
            return wayFrom(in, h, 0, 0, new HashMap<>());
        }

        private int joinTo(State in, int h) {
            Way way = wayOf(in, h);
            List<Map<Integer, Integer>> before = new ArrayList<>(in.slots);
            in.slots.clear();
            int i = 0;
            for (char step : way.steps.toCharArray()) {
                Map<Integer, Integer> slot = step == '2' ? new TreeMap<>() : before.remove(0);
                if (step != '1') {
                    slot.put(h, i++);
                }
                in.slots.add(slot);
            }
            in.order.add(h);
            in.costs.put(h, way.cost);
            return way.cost;
        }

        public int join(int h) {
            if (!isHearing(h)) {
                return no(1);
            }
            return state.order.contains(h) ? no(5) : joinTo(act(), h);
        }

        public int joinAll(int kind) {
            if (speech == null || kind < 0 || kind > 2) {
                return no(1);
            }
            act();
            List<Integer> left = new ArrayList<>();
            for (int h = 0; h < speech.size(); h++) {
                if (!state.order.contains(h)) {
                    left.add(h);
                }
            }
            int together = 0;
            while (!left.isEmpty()) {
                if (kind == 1) {
                    left.sort(Comparator.comparingInt((Integer h) -> -state.weights.get(h)).thenComparingInt(h -> h));
                } else if (kind == 2) {
                    left.sort(Comparator.comparingInt((Integer h) -> wayOf(state, h).cost).thenComparingInt(h -> h));
                }
                together += joinTo(state, left.remove(0));
            }
            return together;
        }

        private State dropped(int h) {
            State anew = state.begunAnew();
            for (int g : state.order) {
                if (g != h) {
                    joinTo(anew, g);
                }
            }
            return anew;
        }

        public int drop(int h) {
            if (!isHearing(h)) {
                return no(1);
            }
            if (!state.order.contains(h)) {
                return no(5);
            }
            act();
            state = dropped(h);
            return state.slots.size();
        }

        public int weigh() {
            if (speech == null) {
                return no(1);
            }
            act();
            Map<Integer, Integer> fresh = new HashMap<>();
            for (int h : state.order) {
                fresh.put(h, 98 * winners(h) / speech.get(h).size() + 1);
            }
            int others = 0;
            for (int h : fresh.keySet()) {
                int was = state.weights.set(h, fresh.get(h));
                others += was == fresh.get(h) ? 0 : 1;
            }
            return others;
        }

        public int undo() {
            if (speech == null) {
                return no(1);
            }
            if (past.isEmpty()) {
                return no(5);
            }
            state = past.removeLast();
            return yes(past.size());
        }

        private List<Choice> choices(State in, Map<Integer, Integer> slot) {
            Map<Integer, Integer> points = new TreeMap<>();
            for (int h : in.order) {
                Integer i = slot.get(h);
                int choice = i == null ? GAP : speech.get(h).get(i).number;
                points.merge(choice, (i == null ? in.share : 100) * in.weights.get(h), Integer::sum);
            }
            List<Choice> all = new ArrayList<>();
            points.forEach((word, many) -> all.add(new Choice(word, many)));
            all.sort(Comparator.comparingInt((Choice c) -> -c.points)
                    .thenComparingInt(c -> c.word == GAP ? 1000 : c.word));
            return all;
        }

        private static int pointsOf(List<Choice> all) {
            return all.stream().mapToInt(Choice::points).sum();
        }

        private static BigInteger[] lowest(long above, long below) {
            BigInteger a = BigInteger.valueOf(above);
            BigInteger b = BigInteger.valueOf(below);
            BigInteger both = a.gcd(b);
            return new BigInteger[] {a.divide(both), b.divide(both)};
        }

        private BigInteger[] doubtOf(Map<Integer, Integer> slot) {
            List<Choice> all = choices(state, slot);
            int together = pointsOf(all);
            int second = all.size() > 1 ? all.get(1).points : 0;
            return lowest(together - all.get(0).points + second, together);
        }

        private List<Place> heardOf(State in) {
            List<Place> heard = new ArrayList<>();
            for (int s = 0; s < in.slots.size(); s++) {
                int word = choices(in, in.slots.get(s)).get(0).word;
                if (word != GAP) {
                    heard.add(new Place(word, timeOf(in, in.slots.get(s), word), s));
                }
            }
            return heard;
        }

        public int slot(int s, int what) {
            if (!isSlot(s) || what < 0 || what > 7) {
                return no(1);
            }
            Map<Integer, Integer> slot = state.slots.get(s);
            List<Choice> all = choices(state, slot);
            int place = -2;
            List<Place> heard = heardOf(state);
            for (int k = 0; k < heard.size(); k++) {
                place = heard.get(k).slot == s ? k : place;
            }
            int[] times = slot.entrySet().stream().mapToInt(e -> speech.get(e.getKey()).get(e.getValue()).time)
                    .sorted().toArray();
            return yes(new int[] {slot.size(), all.size(), timeOf(state, slot, -1), pointsOf(all), all.get(0).word,
                place, times[0], times[times.length - 1]}[what]);
        }

        public int at(int s, int h) {
            return isSlot(s) && isHearing(h) ? yes(state.slots.get(s).getOrDefault(h, -2)) : no(1);
        }

        public int choice(int s, int i, int what) {
            if (!isSlot(s) || what < 0 || what > 3) {
                return no(1);
            }
            List<Choice> all = choices(state, state.slots.get(s));
            if (i < 0 || i >= all.size()) {
                return no(1);
            }
            BigInteger[] vote = lowest(all.get(i).points, pointsOf(all));
            return yes(new int[] {all.get(i).word, all.get(i).points, vote[0].intValue(), vote[1].intValue()}[what]);
        }

        public int doubt(int s, int what) {
            return isSlot(s) && what >= 0 && what <= 1 ? yes(doubtOf(state.slots.get(s))[what].intValue()) : no(1);
        }

        public int doubtful(int i) {
            if (!isSlot(i)) {
                return no(1);
            }
            List<Integer> all = new ArrayList<>();
            for (int s = 0; s < state.slots.size(); s++) {
                all.add(s);
            }
            all.sort((s, t) -> {
                BigInteger[] one = doubtOf(state.slots.get(s));
                BigInteger[] other = doubtOf(state.slots.get(t));
                int order = other[0].multiply(one[1]).compareTo(one[0].multiply(other[1]));
                return order != 0 ? order : s - t;
            });
            return yes(all.get(i));
        }

        public int heard(int i, int what) {
            if (speech == null || i < 0 || i >= heardOf(state).size() || what < 0 || what > 2) {
                return no(1);
            }
            Place one = heardOf(state).get(i);
            return yes(new int[] {one.word, one.time, one.slot}[what]);
        }

        public int errors(int h) {
            return isHearing(h) ? yes(changes(numbers(heardOf(state)), numbers(h))) : no(1);
        }

        public int cost(int h) {
            if (!isHearing(h)) {
                return no(1);
            }
            return state.order.contains(h) ? no(5) : yes(wayOf(state, h).cost);
        }

        public int way(int h, int k) {
            if (!isHearing(h) || k < 0) {
                return no(1);
            }
            if (state.order.contains(h)) {
                return no(5);
            }
            String steps = wayOf(state, h).steps;
            return yes(k < steps.length() ? steps.charAt(k) - '0' : -2);
        }

        public int without(int h) {
            if (!isHearing(h)) {
                return no(1);
            }
            if (!state.order.contains(h)) {
                return no(5);
            }
            return yes(changes(numbers(heardOf(state)), numbers(heardOf(dropped(h)))));
        }

        private void allOrders(List<Integer> begun, List<Order> all) {
            if (begun.size() == speech.size()) {
                State anew = state.begunAnew();
                int together = 0;
                for (int h : begun) {
                    together += joinTo(anew, h);
                }
                all.add(new Order(together, List.copyOf(begun)));
            }
            for (int h = 0; h < speech.size(); h++) {
                if (!begun.contains(h)) {
                    List<Integer> longer = new ArrayList<>(begun);
                    longer.add(h);
                    allOrders(longer, all);
                }
            }
        }

        public int best(int i) {
            if (speech == null || i < -1 || i >= speech.size()) {
                return no(1);
            }
            List<Order> all = new ArrayList<>();
            allOrders(List.of(), all);
            Order least = all.get(0);
            for (Order one : all) {
                least = one.cost < least.cost ? one : least;
            }
            return yes(i == -1 ? least.cost : least.hearings.get(i));
        }

        public int write() {
            if (speech == null) {
                return no(1);
            }
            List<String> parts = new ArrayList<>();
            for (Place one : heardOf(state)) {
                BigInteger[] doubt = doubtOf(state.slots.get(one.slot));
                boolean isAbove = doubt[0].shiftLeft(1).compareTo(doubt[1]) > 0;
                parts.add(words.get(one.word) + (isAbove ? "?" : ""));
            }
            written = String.join(" ", parts);
            return yes(written.length());
        }

        public int octet(int k) {
            if (k < 0 || k >= written.length()) {
                throw new NoSuchElementException();
            }
            return written.charAt(k);
        }

        public int size() {
            return tape.length();
        }

        public int trouble() {
            return trouble;
        }
    }
}
