import java.util.Arrays;
import java.util.NoSuchElementException;

/**
 * What several have heard of one speech, joined word by word to a net of slots, and what is heard
 * by their votes. Words in capitals are the document's. All rows are made once, in the constructors,
 * and used again: no call makes an object, but for the exception of octet().
 */
public final class HeardVotes {
    public static final int NONE = -1;

    /** What many calls answer for a GAP, for one that isn't JOINED, for what is beyond. */
    private static final int NOTHING = -2;

    private static final int MOST_HEARINGS = 5;
    private static final int MOST_EACH = 12;
    private static final int MOST_WORDS = MOST_HEARINGS * MOST_EACH;
    /** Every SLOT has a word at least, so there are never more of them than words told. */
    private static final int MOST_SLOTS = MOST_WORDS;
    private static final int MOST_LETTERS = 6;
    private static final int MOST_DIGITS = 3;
    private static final int MOST_ACTS = 10;
    private static final int TAPE_BYTES = 600;
    private static final int FEED_BYTES = 20;

    private static final int MOST_WEIGHT = 99;
    private static final int MOST_TIME = 999;
    private static final int MOST_COST = 9;
    private static final int MOST_SHARE = 200;
    private static final int WORD_SHARE = 100;

    private static final int NO_TROUBLE = 0;
    private static final int NO_SUCH = 1;
    private static final int BAD_NUMBER = 2;
    private static final int FAULTY = 4;
    private static final int NOT_SO = 5;

    private static final int BLANK = 32;
    private static final int ASKING = 63;
    private static final int LETTER_A = 97;

    /** The GAP among CHOICES: a number behind those of all WORDS, so that it comes behind them. */
    private static final int GAP = MOST_WORDS;
    /** Stands for any WORD, where a TIME is asked of all words THERE. */
    private static final int ANY_WORD = -1;

    private static final int MATCH = 0;
    private static final int SKIP = 1;
    private static final int NEW = 2;

    /** Above the COSTS of any order: 60 words and 60 SLOTS cost 10 each at most, for five HEARINGS. */
    private static final int TOO_DEAR = 1000000;

    private final int[] tape = new int[TAPE_BYTES];
    private final int[] written = new int[MOST_SLOTS * (MOST_LETTERS + 2)];
    private final int[] newWeights = new int[MOST_HEARINGS];
    private final int[] heardBefore = new int[MOST_SLOTS];
    private final Speech speech = new Speech();
    private final Rules rules = new Rules();
    private final Net net = new Net();
    private final Net paper = new Net();
    private final Acts acts = new Acts();
    private final Rows rows = new Rows();
    private final Reader reader;
    private final Fars fars;
    private final Ballot ballot;
    private final Weaver weaver;
    private final Orders orders;
    private int tapeSize = 0;
    private int writtenSize = 0;
    private int trouble = NO_TROUBLE;
    private int fault = 0;
    private int place = NONE;

    public HeardVotes() {
        reader = new Reader(tape);
        fars = new Fars(speech, rows);
        ballot = new Ballot(speech, rules);
        weaver = new Weaver(speech, rules, fars, ballot);
        orders = new Orders(speech, weaver);
    }

    // ---- texts

    public int feed(int a, int b, int c, int d, int e) {
        if (tapeSize + FEED_BYTES > TAPE_BYTES) {
            return NONE;
        }
        putNumber(a);
        putNumber(b);
        putNumber(c);
        putNumber(d);
        putNumber(e);
        return tapeSize;
    }

    public int text(int n) {
        if (n < 0 || n > tapeSize) {
            return refused(BAD_NUMBER);
        }
        tapeSize = 0;
        fault = reader.read(n);
        if (fault != 0) {
            trouble = FAULTY;
            place = reader.start;
            return NONE;
        }
        speech.copyFrom(reader.speech);
        rules.begin(speech);
        net.clear();
        acts.clear();
        fars.forget();
        orders.forget();
        return answered(speech.hearings);
    }

    public int fault() {
        return fault;
    }

    public int where() {
        return place;
    }

    public int about(int what) {
        if (!isTold()) {
            return refused(NO_SUCH);
        }
        switch (what) {
            case 0:
                return answered(speech.hearings);
            case 1:
                return answered(speech.words);
            case 2:
                return answered(net.joined);
            case 3:
                return answered(net.slots);
            case 4:
                ballot.listHeard(net);
                return answered(ballot.heardCount);
            case 5:
                return answered(costsOfJoined());
            case 6:
                return answered(acts.count);
            case 7:
                return answered(weightsOfJoined());
            default:
                return refused(NO_SUCH);
        }
    }

    public int hearing(int h, int what) {
        if (!isHearing(h)) {
            return refused(NO_SUCH);
        }
        switch (what) {
            case 0:
                return answered(rules.weightOf(h));
            case 1:
                return answered(speech.countOf(h));
            case 2:
                return answered(net.placeOf(h));
            case 3:
                return answered(net.holds(h) ? net.costOf(h) : NOTHING);
            case 4:
                return answered(net.holds(h) ? winnersOf(h) : NOTHING);
            default:
                return refused(NO_SUCH);
        }
    }

    public int word(int h, int i, int what) {
        if (!isHearing(h) || i < 0 || i >= speech.countOf(h)) {
            return refused(NO_SUCH);
        }
        switch (what) {
            case 0:
                return answered(speech.wordOf(h, i));
            case 1:
                return answered(speech.timeOf(h, i));
            case 2:
                return answered(net.slotOf(h, i));
            default:
                return refused(NO_SUCH);
        }
    }

    public int letter(int w, int k) {
        if (!isWord(w) || k < 0) {
            return refused(NO_SUCH);
        }
        return answered(speech.letterOf(w, k));
    }

    public int far(int w, int v) {
        if (!isWord(w) || !isWord(v)) {
            return refused(NO_SUCH);
        }
        return answered(fars.apart(w, v));
    }

    public int between(int h, int g) {
        if (!isHearing(h) || !isHearing(g)) {
            return refused(NO_SUCH);
        }
        return answered(rows.changes(speech.wordAt, h * MOST_EACH, speech.countOf(h),
                speech.wordAt, g * MOST_EACH, speech.countOf(g)));
    }

    // ---- acts

    public boolean costs(int fresh, int gap, int nearest) {
        if (!isTold()) {
            return refusedAct(NO_SUCH);
        }
        if (!isWithin(fresh, 1, MOST_COST) || !isWithin(gap, 1, MOST_COST)
                || !isWithin(nearest, 0, MOST_COST)) {
            return refusedAct(BAD_NUMBER);
        }
        beginAct();
        rules.fresh = fresh;
        rules.gap = gap;
        rules.nearest = nearest;
        return true;
    }

    public boolean window(int v) {
        if (!isTold()) {
            return refusedAct(NO_SUCH);
        }
        if (!isWithin(v, 0, MOST_TIME)) {
            return refusedAct(BAD_NUMBER);
        }
        beginAct();
        rules.window = v;
        return true;
    }

    public boolean share(int v) {
        if (!isTold()) {
            return refusedAct(NO_SUCH);
        }
        if (!isWithin(v, 0, MOST_SHARE)) {
            return refusedAct(BAD_NUMBER);
        }
        beginAct();
        rules.share = v;
        return true;
    }

    public int weight(int h, int v) {
        if (!isHearing(h)) {
            return refused(NO_SUCH);
        }
        if (!isWithin(v, 1, MOST_WEIGHT)) {
            return refused(BAD_NUMBER);
        }
        beginAct();
        int was = rules.weightOf(h);
        rules.setWeight(h, v);
        return was;
    }

    public int join(int h) {
        if (!isHearing(h)) {
            return refused(NO_SUCH);
        }
        if (net.holds(h)) {
            return refused(NOT_SO);
        }
        beginAct();
        return weaver.weave(net, h);
    }

    public int joinAll(int kind) {
        if (!isTold() || !isWithin(kind, 0, 2)) {
            return refused(NO_SUCH);
        }
        beginAct();
        int together = 0;
        int left = speech.hearings - net.joined;
        for (int k = 0; k < left; k++) {
            together += weaver.weave(net, nextToJoin(kind));
        }
        return together;
    }

    public int drop(int h) {
        if (!isHearing(h)) {
            return refused(NO_SUCH);
        }
        if (!net.holds(h)) {
            return refused(NOT_SO);
        }
        beginAct();
        weaver.weaveWithout(net, h, paper);
        net.copyFrom(paper);
        return net.slots;
    }

    public int weigh() {
        if (!isTold()) {
            return refused(NO_SUCH);
        }
        beginAct();
        // All at once: no new WEIGHT may count while winners are still looked for.
        for (int h = 0; h < MOST_HEARINGS; h++) {
            newWeights[h] = net.holds(h) ? weightByRight(h) : rules.weightOf(h);
        }
        int others = 0;
        for (int h = 0; h < MOST_HEARINGS; h++) {
            others += newWeights[h] == rules.weightOf(h) ? 0 : 1;
            rules.setWeight(h, newWeights[h]);
        }
        return others;
    }

    public int undo() {
        if (!isTold()) {
            return refused(NO_SUCH);
        }
        if (acts.count <= 0) {
            return refused(NOT_SO);
        }
        acts.takeBack(rules, net);
        orders.forget();
        return answered(acts.count);
    }

    // ---- the net

    public int slot(int s, int what) {
        if (!isSlot(s)) {
            return refused(NO_SUCH);
        }
        ballot.tally(net, s);
        switch (what) {
            case 0:
                return answered(net.wordsThere(s));
            case 1:
                return answered(ballot.choices);
            case 2:
                return answered(ballot.meanTime(net, s, ANY_WORD));
            case 3:
                return answered(ballot.total);
            case 4:
                return answered(ballot.wordOfChoice(0));
            case 5:
                return answered(placeInHeard(s));
            case 6:
                return answered(leastTime(s));
            case 7:
                return answered(greatestTime(s));
            default:
                return refused(NO_SUCH);
        }
    }

    public int at(int s, int h) {
        if (!isSlot(s) || !isHearing(h)) {
            return refused(NO_SUCH);
        }
        return answered(net.thereOf(s, h));
    }

    public int choice(int s, int i, int what) {
        if (!isSlot(s)) {
            return refused(NO_SUCH);
        }
        ballot.tally(net, s);
        if (i < 0 || i >= ballot.choices) {
            return refused(NO_SUCH);
        }
        int points = ballot.pointsOfChoice(i);
        switch (what) {
            case 0:
                return answered(ballot.wordOfChoice(i));
            case 1:
                return answered(points);
            case 2:
                return answered(lessened(points, points, ballot.total));
            case 3:
                return answered(lessened(ballot.total, points, ballot.total));
            default:
                return refused(NO_SUCH);
        }
    }

    public int doubt(int s, int what) {
        if (!isSlot(s)) {
            return refused(NO_SUCH);
        }
        ballot.tally(net, s);
        int above = ballot.doubtPoints();
        switch (what) {
            case 0:
                return answered(lessened(above, above, ballot.total));
            case 1:
                return answered(lessened(ballot.total, above, ballot.total));
            default:
                return refused(NO_SUCH);
        }
    }

    public int doubtful(int i) {
        if (!isSlot(i)) {
            return refused(NO_SUCH);
        }
        ballot.listDoubts(net);
        return answered(ballot.mostDoubtful(i));
    }

    public int heard(int i, int what) {
        ballot.listHeard(net);
        int s = ballot.heardSlot(i);
        if (s == NONE) {
            return refused(NO_SUCH);
        }
        int w = ballot.heardWord(i);
        switch (what) {
            case 0:
                return answered(w);
            case 1:
                return answered(ballot.meanTime(net, s, w));
            case 2:
                return answered(s);
            default:
                return refused(NO_SUCH);
        }
    }

    public int errors(int h) {
        if (!isHearing(h)) {
            return refused(NO_SUCH);
        }
        ballot.listHeard(net);
        return answered(rows.changes(ballot.heardWords, 0, ballot.heardCount,
                speech.wordAt, h * MOST_EACH, speech.countOf(h)));
    }

    // ---- on paper

    public int cost(int h) {
        if (!isHearing(h)) {
            return refused(NO_SUCH);
        }
        if (net.holds(h)) {
            return refused(NOT_SO);
        }
        return answered(weaver.plan(net, h));
    }

    public int way(int h, int k) {
        if (!isHearing(h) || k < 0) {
            return refused(NO_SUCH);
        }
        if (net.holds(h)) {
            return refused(NOT_SO);
        }
        weaver.plan(net, h);
        return answered(weaver.stepOf(k));
    }

    public int without(int h) {
        if (!isHearing(h)) {
            return refused(NO_SUCH);
        }
        if (!net.holds(h)) {
            return refused(NOT_SO);
        }
        ballot.listHeard(net);
        int before = ballot.heardCount;
        System.arraycopy(ballot.heardWords, 0, heardBefore, 0, MOST_SLOTS);
        weaver.weaveWithout(net, h, paper);
        ballot.listHeard(paper);
        return answered(rows.changes(heardBefore, 0, before, ballot.heardWords, 0, ballot.heardCount));
    }

    public int best(int i) {
        if (!isTold() || i < NONE || i >= speech.hearings) {
            return refused(NO_SUCH);
        }
        orders.find();
        return answered(i == NONE ? orders.least : orders.hearingAt(i));
    }

    // ---- what is written

    public int write() {
        if (!isTold()) {
            return refused(NO_SUCH);
        }
        ballot.listHeard(net);
        ballot.listDoubts(net);
        writtenSize = 0;
        for (int i = 0; i < ballot.heardCount; i++) {
            if (i > 0) {
                putWritten(BLANK);
            }
            writeWord(ballot.heardWord(i));
            if (ballot.isAboveHalf(ballot.heardSlot(i))) {
                putWritten(ASKING);
            }
        }
        return answered(writtenSize);
    }

    public int octet(int k) throws NoSuchElementException {
        if (k < 0 || k >= writtenSize || k >= written.length) {
            throw new NoSuchElementException("no such byte was written");
        }
        return written[k];
    }

    public int size() {
        return tapeSize;
    }

    public int trouble() {
        return trouble;
    }

    // ---- what the calls are made of

    private int refused(int number) {
        trouble = number;
        place = NONE;
        return NONE;
    }

    private boolean refusedAct(int number) {
        refused(number);
        return false;
    }

    private int answered(int answer) {
        trouble = NO_TROUBLE;
        place = NONE;
        return answer;
    }

    /** Comes behind all tests of an ACT and ahead of all that it changes. */
    private void beginAct() {
        answered(0);
        acts.keep(rules, net);
        orders.forget();
    }

    private void putNumber(int four) {
        for (int shift = 24; shift >= 0; shift -= 8) {
            if (tapeSize >= 0 && tapeSize < tape.length) {
                tape[tapeSize] = (four >>> shift) & 255;
                tapeSize++;
            }
        }
    }

    /** A TEXT has one HEARING at least, so without any there is no TEXT. */
    private boolean isTold() {
        return speech.hearings > 0;
    }

    private boolean isHearing(int h) {
        return h >= 0 && h < speech.hearings;
    }

    private boolean isWord(int w) {
        return w >= 0 && w < speech.words;
    }

    private boolean isSlot(int s) {
        return s >= 0 && s < net.slots;
    }

    private static boolean isWithin(int v, int least, int most) {
        return v >= least && v <= most;
    }

    private int costsOfJoined() {
        int together = 0;
        for (int h = 0; h < MOST_HEARINGS; h++) {
            together += net.holds(h) ? net.costOf(h) : 0;
        }
        return together;
    }

    private int weightsOfJoined() {
        int together = 0;
        for (int h = 0; h < MOST_HEARINGS; h++) {
            together += net.holds(h) ? rules.weightOf(h) : 0;
        }
        return together;
    }

    /** How many words of a JOINED HEARING are WINNERS of their SLOTS. */
    private int winnersOf(int h) {
        int winners = 0;
        for (int s = 0; s < net.slots; s++) {
            int i = net.thereOf(s, h);
            if (i >= 0) {
                ballot.tally(net, s);
                winners += speech.wordOf(h, i) == ballot.wordOfChoice(0) ? 1 : 0;
            }
        }
        return winners;
    }

    private int weightByRight(int h) {
        int count = speech.countOf(h);
        return count > 0 ? (MOST_WEIGHT - 1) * winnersOf(h) / count + 1 : 1;
    }

    /** Of those that aren't JOINED the one whose turn it is; NONE without one. */
    private int nextToJoin(int kind) {
        int next = NONE;
        int leastRank = 0;
        for (int h = 0; h < speech.hearings; h++) {
            if (!net.holds(h)) {
                int rank = kind == 0 ? h : kind == 1 ? -rules.weightOf(h) : weaver.plan(net, h);
                if (next == NONE || rank < leastRank) {
                    next = h;
                    leastRank = rank;
                }
            }
        }
        return next;
    }

    private int placeInHeard(int s) {
        ballot.listHeard(net);
        for (int i = 0; i < ballot.heardCount; i++) {
            if (ballot.heardSlot(i) == s) {
                return i;
            }
        }
        return NOTHING;
    }

    private int leastTime(int s) {
        int least = MOST_TIME;
        for (int h = 0; h < MOST_HEARINGS; h++) {
            int i = net.thereOf(s, h);
            if (i >= 0 && speech.timeOf(h, i) < least) {
                least = speech.timeOf(h, i);
            }
        }
        return least;
    }

    private int greatestTime(int s) {
        int greatest = 0;
        for (int h = 0; h < MOST_HEARINGS; h++) {
            int i = net.thereOf(s, h);
            if (i >= 0 && speech.timeOf(h, i) > greatest) {
                greatest = speech.timeOf(h, i);
            }
        }
        return greatest;
    }

    private void writeWord(int w) {
        for (int k = 0; k < MOST_LETTERS; k++) {
            int sign = speech.letterOf(w, k);
            if (sign >= 0) {
                putWritten(LETTER_A + sign);
            }
        }
    }

    private void putWritten(int sign) {
        if (writtenSize >= 0 && writtenSize < written.length) {
            written[writtenSize] = sign;
            writtenSize++;
        }
    }

    /** A number by the greatest whole that divides both others: by Euclid, who needs fewer than 64 steps here. */
    private static int lessened(int number, int a, int b) {
        int more = a;
        int less = b;
        for (int k = 0; k < 64 && less != 0; k++) {
            int rest = more % less;
            more = less;
            less = rest;
        }
        return more > 0 ? number / more : number;
    }

    /** THE TEXT: of each HEARING its words and TIMES, and the WORDS by their numbers. */
    private static final class Speech {
        int hearings = 0;
        int words = 0;
        /** Of the i-th word of HEARING h, at h * MOST_EACH + i: its WORD. */
        final int[] wordAt = new int[MOST_WORDS];
        private final int[] timeAt = new int[MOST_WORDS];
        private final int[] names = new int[MOST_HEARINGS];
        private final int[] weights = new int[MOST_HEARINGS];
        private final int[] counts = new int[MOST_HEARINGS];
        /** Each WORD as one number: of each letter five bits (1 a, ..), the first letter's lowest. */
        private final int[] spelled = new int[MOST_WORDS];
        /** Letter k of WORD w, at w * MOST_LETTERS + k (0 a, ..); NOTHING beyond it. */
        final int[] letters = new int[MOST_WORDS * MOST_LETTERS];
        private final int[] lengths = new int[MOST_WORDS];

        void clear() {
            hearings = 0;
            words = 0;
        }

        void copyFrom(Speech other) {
            hearings = other.hearings;
            words = other.words;
            System.arraycopy(other.wordAt, 0, wordAt, 0, MOST_WORDS);
            System.arraycopy(other.timeAt, 0, timeAt, 0, MOST_WORDS);
            System.arraycopy(other.names, 0, names, 0, MOST_HEARINGS);
            System.arraycopy(other.weights, 0, weights, 0, MOST_HEARINGS);
            System.arraycopy(other.counts, 0, counts, 0, MOST_HEARINGS);
            System.arraycopy(other.spelled, 0, spelled, 0, MOST_WORDS);
            System.arraycopy(other.letters, 0, letters, 0, letters.length);
            System.arraycopy(other.lengths, 0, lengths, 0, MOST_WORDS);
        }

        int countOf(int h) {
            return h >= 0 && h < MOST_HEARINGS ? counts[h] : 0;
        }

        int weightTold(int h) {
            return h >= 0 && h < MOST_HEARINGS ? weights[h] : 0;
        }

        int wordOf(int h, int i) {
            return h >= 0 && h < MOST_HEARINGS && i >= 0 && i < MOST_EACH ? wordAt[h * MOST_EACH + i] : NONE;
        }

        int timeOf(int h, int i) {
            return h >= 0 && h < MOST_HEARINGS && i >= 0 && i < MOST_EACH ? timeAt[h * MOST_EACH + i] : NONE;
        }

        int letterOf(int w, int k) {
            return w >= 0 && w < MOST_WORDS && k >= 0 && k < MOST_LETTERS
                    ? letters[w * MOST_LETTERS + k] : NOTHING;
        }

        int lengthOf(int w) {
            return w >= 0 && w < MOST_WORDS ? lengths[w] : 0;
        }

        boolean hasName(int spelling) {
            for (int h = 0; h < MOST_HEARINGS && h < hearings; h++) {
                if (names[h] == spelling) {
                    return true;
                }
            }
            return false;
        }

        /** Begins the next HEARING; false if there are too many. */
        boolean addHearing(int name) {
            if (hearings < 0 || hearings >= MOST_HEARINGS) {
                return false;
            }
            names[hearings] = name;
            counts[hearings] = 0;
            hearings++;
            return true;
        }

        void setWeight(int weight) {
            int h = hearings - 1;
            if (h >= 0 && h < MOST_HEARINGS) {
                weights[h] = weight;
            }
        }

        /** Another word of the latest HEARING; false if there are too many. */
        boolean addWord(int spelling) {
            int h = hearings - 1;
            int i = countOf(h);
            if (h < 0 || h >= MOST_HEARINGS || i < 0 || i >= MOST_EACH) {
                return false;
            }
            wordAt[h * MOST_EACH + i] = numberOf(spelling);
            counts[h] = i + 1;
            return true;
        }

        /** TIME of the latest word; false if it isn't above the one ahead. */
        boolean setTime(int time) {
            int h = hearings - 1;
            int i = countOf(h) - 1;
            if (h < 0 || h >= MOST_HEARINGS || i < 0 || i >= MOST_EACH
                    || i > 0 && time <= timeOf(h, i - 1)) {
                return false;
            }
            timeAt[h * MOST_EACH + i] = time;
            return true;
        }

        /** The number of a WORD; one that wasn't told yet gets the next number. */
        private int numberOf(int spelling) {
            for (int w = 0; w < MOST_WORDS; w++) {
                if (w >= words) {
                    spell(w, spelling);
                    words = w + 1;
                }
                if (spelled[w] == spelling) {
                    return w;
                }
            }
            return NONE;
        }

        private void spell(int w, int spelling) {
            spelled[w] = spelling;
            lengths[w] = 0;
            for (int k = 0; k < MOST_LETTERS; k++) {
                int sign = (spelling >> (5 * k)) & 31;
                letters[w * MOST_LETTERS + k] = sign == 0 ? NOTHING : sign - 1;
                lengths[w] += sign == 0 ? 0 : 1;
            }
        }
    }

    /** Reads a text, token by token, into a Speech of its own, and finds the first FAULT. */
    private static final class Reader {
        private static final int FORM = 1;
        private static final int BOUNDS = 2;
        private static final int NAME_AGAIN = 3;
        private static final int TOO_MANY = 4;

        private static final int NO_TOKEN = 0;
        private static final int END = 1;
        private static final int WORD = 2;
        private static final int WHOLE = 3;
        private static final int PARTING = 4;
        private static final int COLON = 5;

        private static final int FOR_NAME = 0;
        private static final int FOR_WEIGHT_SIGN = 1;
        private static final int FOR_WEIGHT = 2;
        private static final int FOR_COLON = 3;
        private static final int FOR_FIRST_WORD = 4;
        private static final int FOR_TIME = 5;
        private static final int FOR_MORE = 6;

        private static final int DIGIT_0 = 48;
        private static final int PARTING_SIGN = 59;
        private static final int COLON_SIGN = 58;
        /** The letters of "weight", spelled as a Speech does. */
        private static final int WEIGHT_SIGN = 23 | 5 << 5 | 9 << 10 | 7 << 15 | 8 << 20 | 20 << 25;

        final Speech speech = new Speech();
        /** Where the latest token begins: the place of a FAULT. */
        int start = 0;
        private final int[] bytes;
        private int length = 0;
        private int next = 0;
        private int kind = NO_TOKEN;
        /** Of a WORD how it is spelled, of a WHOLE its number. */
        private int value = 0;
        private int awaited = FOR_NAME;

        Reader(int[] bytes) {
            this.bytes = bytes;
        }

        /** 0, or the first FAULT of the first n bytes (start is its place then). */
        int read(int n) {
            speech.clear();
            length = n;
            next = 0;
            awaited = FOR_NAME;
            // Each token but the end has one byte at least, so this comes to the end.
            for (int tokens = 0; tokens <= length; tokens++) {
                takeToken();
                if (kind == END && awaited == FOR_MORE) {
                    return 0;
                }
                int found = takeIn();
                if (found != 0) {
                    return found;
                }
            }
            return FORM;
        }

        /** The byte that is read next; NONE at the end. */
        private int ahead() {
            return next >= 0 && next < length && next < bytes.length ? bytes[next] : NONE;
        }

        private void takeToken() {
            while (next < length && ahead() == BLANK) {
                next++;
            }
            start = next;
            value = 0;
            int sign = ahead();
            if (sign == NONE) {
                kind = END;
            } else if (isLetter(sign)) {
                takeWord();
            } else if (isDigit(sign)) {
                takeWhole();
            } else {
                kind = sign == PARTING_SIGN ? PARTING : sign == COLON_SIGN ? COLON : NO_TOKEN;
                next++;
            }
        }

        private void takeWord() {
            while (next < length && isLetter(ahead())) {
                int k = next - start;
                if (k < MOST_LETTERS) {
                    value |= (ahead() - LETTER_A + 1) << (5 * k);
                }
                next++;
            }
            kind = next - start <= MOST_LETTERS ? WORD : NO_TOKEN;
        }

        private void takeWhole() {
            while (next < length && isDigit(ahead())) {
                if (next - start < MOST_DIGITS) {
                    value = value * 10 + ahead() - DIGIT_0;
                }
                next++;
            }
            kind = next - start <= MOST_DIGITS ? WHOLE : NO_TOKEN;
        }

        private static boolean isLetter(int sign) {
            return sign >= LETTER_A && sign < LETTER_A + 26;
        }

        private static boolean isDigit(int sign) {
            return sign >= DIGIT_0 && sign < DIGIT_0 + 10;
        }

        /** 0 if the text goes on with the latest token, else the least FAULT of it. */
        private int takeIn() {
            switch (awaited) {
                case FOR_NAME:
                    return kind == WORD ? takeName() : FORM;
                case FOR_WEIGHT_SIGN:
                    return kind == WORD && value == WEIGHT_SIGN ? goOn(FOR_WEIGHT) : FORM;
                case FOR_WEIGHT:
                    return kind == WHOLE ? takeWeight() : FORM;
                case FOR_COLON:
                    return kind == COLON ? goOn(FOR_FIRST_WORD) : FORM;
                case FOR_FIRST_WORD:
                    return kind == WORD ? takeHeard() : FORM;
                case FOR_TIME:
                    return kind == WHOLE ? takeTime() : FORM;
                case FOR_MORE:
                    return kind == WORD ? takeHeard() : kind == PARTING ? goOn(FOR_NAME) : FORM;
                default:
                    return FORM;
            }
        }

        private int goOn(int with) {
            awaited = with;
            return 0;
        }

        private int takeName() {
            if (speech.hasName(value)) {
                return NAME_AGAIN;
            }
            return speech.addHearing(value) ? goOn(FOR_WEIGHT_SIGN) : TOO_MANY;
        }

        private int takeWeight() {
            if (value < 1 || value > MOST_WEIGHT) {
                return BOUNDS;
            }
            speech.setWeight(value);
            return goOn(FOR_COLON);
        }

        private int takeHeard() {
            return speech.addWord(value) ? goOn(FOR_TIME) : TOO_MANY;
        }

        private int takeTime() {
            return speech.setTime(value) ? goOn(FOR_MORE) : BOUNDS;
        }
    }

    /** How few changes make one row of numbers of another. */
    private static final class Rows {
        private final int[] line = new int[MOST_WORDS + 1];

        /** The fewest put in, taken out, or put in place of another one; each row is a part of an array. */
        int changes(int[] left, int leftFrom, int leftCount, int[] right, int rightFrom, int rightCount) {
            if (leftFrom < 0 || leftCount < 0 || leftCount > left.length - leftFrom
                    || rightFrom < 0 || rightCount < 0 || rightCount > right.length - rightFrom
                    || rightCount > MOST_WORDS) {
                return 0;
            }
            for (int j = 0; j <= rightCount; j++) {
                line[j] = j;
            }
            for (int i = 0; i < leftCount; i++) {
                int corner = line[0];
                line[0] = i + 1;
                for (int j = 0; j < rightCount; j++) {
                    int beside = line[j + 1];
                    int fewest = (beside < line[j] ? beside : line[j]) + 1;
                    int placed = corner + (left[leftFrom + i] == right[rightFrom + j] ? 0 : 1);
                    line[j + 1] = placed < fewest ? placed : fewest;
                    corner = beside;
                }
            }
            return line[rightCount];
        }
    }

    /** FAR of WORDS; each pair is reckoned once a TEXT, since best() asks for it over and over. */
    private static final class Fars {
        private final Speech speech;
        private final Rows rows;
        /** Of WORDS w and v below it, at w * (w - 1) / 2 + v: FAR is the same both ways, and 0 of one WORD. */
        private final int[] known = new int[MOST_WORDS * (MOST_WORDS - 1) / 2];

        Fars(Speech speech, Rows rows) {
            this.speech = speech;
            this.rows = rows;
            Arrays.fill(known, NONE);
        }

        void forget() {
            Arrays.fill(known, NONE);
        }

        int apart(int w, int v) {
            if (w < 0 || w >= MOST_WORDS || v < 0 || v >= MOST_WORDS || w == v) {
                return 0;
            }
            int pair = w > v ? w * (w - 1) / 2 + v : v * (v - 1) / 2 + w;
            if (known[pair] == NONE) {
                known[pair] = rows.changes(speech.letters, w * MOST_LETTERS, speech.lengthOf(w),
                        speech.letters, v * MOST_LETTERS, speech.lengthOf(v));
            }
            return known[pair];
        }
    }

    /** What acts set: costs, WINDOW, SHARE, and the WEIGHTS as they are now. */
    private static final class Rules {
        /** How much of a row keeps them. */
        static final int KEPT = 5 + MOST_HEARINGS;

        int fresh = 0;
        int gap = 0;
        int nearest = 0;
        int window = 0;
        int share = 0;
        private final int[] weights = new int[MOST_HEARINGS];

        void begin(Speech told) {
            fresh = 3;
            gap = 3;
            nearest = 4;
            window = 999;
            share = 100;
            for (int h = 0; h < MOST_HEARINGS; h++) {
                weights[h] = told.weightTold(h);
            }
        }

        void keepIn(int[] row, int from) {
            if (from < 0 || from > row.length - KEPT) {
                return;
            }
            row[from] = fresh;
            row[from + 1] = gap;
            row[from + 2] = nearest;
            row[from + 3] = window;
            row[from + 4] = share;
            System.arraycopy(weights, 0, row, from + 5, MOST_HEARINGS);
        }

        void takeFrom(int[] row, int from) {
            if (from < 0 || from > row.length - KEPT) {
                return;
            }
            fresh = row[from];
            gap = row[from + 1];
            nearest = row[from + 2];
            window = row[from + 3];
            share = row[from + 4];
            System.arraycopy(row, from + 5, weights, 0, MOST_HEARINGS);
        }

        int weightOf(int h) {
            return h >= 0 && h < MOST_HEARINGS ? weights[h] : 0;
        }

        void setWeight(int h, int v) {
            if (h >= 0 && h < MOST_HEARINGS) {
                weights[h] = v;
            }
        }
    }

    /** THE NET: SLOTS in a row, and who is JOINED, in which order, by which COST. */
    private static final class Net {
        /** How much of a row keeps it: of each word its SLOT is enough, since SLOTS have one word at least. */
        static final int KEPT = 2 + 2 * MOST_HEARINGS + MOST_WORDS;
        private static final int ORDER_KEPT = 2;
        private static final int COSTS_KEPT = ORDER_KEPT + MOST_HEARINGS;
        private static final int WORDS_KEPT = COSTS_KEPT + MOST_HEARINGS;

        int slots = 0;
        int joined = 0;
        private final int[] order = new int[MOST_HEARINGS];
        /** Of each HEARING its place in the order, NOTHING if it isn't JOINED. */
        private final int[] places = new int[MOST_HEARINGS];
        private final int[] costs = new int[MOST_HEARINGS];
        /** Of SLOT s and HEARING h, at s * MOST_HEARINGS + h: the number of its word, NOTHING for a GAP. */
        private final int[] there = new int[MOST_SLOTS * MOST_HEARINGS];

        Net() {
            Arrays.fill(places, NOTHING);
        }

        void clear() {
            slots = 0;
            joined = 0;
            Arrays.fill(places, NOTHING);
        }

        void copyFrom(Net other) {
            slots = other.slots;
            joined = other.joined;
            System.arraycopy(other.order, 0, order, 0, MOST_HEARINGS);
            System.arraycopy(other.places, 0, places, 0, MOST_HEARINGS);
            System.arraycopy(other.costs, 0, costs, 0, MOST_HEARINGS);
            System.arraycopy(other.there, 0, there, 0, there.length);
        }

        void keepIn(int[] row, int from) {
            if (from < 0 || from > row.length - KEPT) {
                return;
            }
            row[from] = slots;
            row[from + 1] = joined;
            System.arraycopy(order, 0, row, from + ORDER_KEPT, MOST_HEARINGS);
            System.arraycopy(costs, 0, row, from + COSTS_KEPT, MOST_HEARINGS);
            Arrays.fill(row, from + WORDS_KEPT, from + KEPT, NOTHING);
            for (int s = 0; s < slots; s++) {
                for (int h = 0; h < MOST_HEARINGS; h++) {
                    int i = thereOf(s, h);
                    if (i >= 0 && i < MOST_EACH) {
                        row[from + WORDS_KEPT + h * MOST_EACH + i] = s;
                    }
                }
            }
        }

        void takeFrom(int[] row, int from) {
            if (from < 0 || from > row.length - KEPT) {
                return;
            }
            clear();
            slots = row[from];
            for (int k = 0; k < row[from + 1] && k < MOST_HEARINGS; k++) {
                int h = row[from + ORDER_KEPT + k];
                if (h >= 0 && h < MOST_HEARINGS) {
                    addJoined(h, row[from + COSTS_KEPT + h]);
                }
            }
            for (int s = 0; s < slots; s++) {
                emptySlot(s);
            }
            for (int w = 0; w < MOST_WORDS; w++) {
                putThere(row[from + WORDS_KEPT + w], w / MOST_EACH, w % MOST_EACH);
            }
        }

        int placeOf(int h) {
            return h >= 0 && h < MOST_HEARINGS ? places[h] : NOTHING;
        }

        boolean holds(int h) {
            return placeOf(h) >= 0;
        }

        int costOf(int h) {
            return h >= 0 && h < MOST_HEARINGS ? costs[h] : 0;
        }

        /** The k-th that was JOINED. */
        int joinedAt(int k) {
            return k >= 0 && k < MOST_HEARINGS ? order[k] : NONE;
        }

        int thereOf(int s, int h) {
            return s >= 0 && s < MOST_SLOTS && h >= 0 && h < MOST_HEARINGS
                    ? there[s * MOST_HEARINGS + h] : NOTHING;
        }

        int slotOf(int h, int i) {
            for (int s = 0; s < slots; s++) {
                if (thereOf(s, h) == i) {
                    return s;
                }
            }
            return NOTHING;
        }

        int wordsThere(int s) {
            int count = 0;
            for (int h = 0; h < MOST_HEARINGS; h++) {
                count += thereOf(s, h) >= 0 ? 1 : 0;
            }
            return count;
        }

        void putThere(int s, int h, int i) {
            if (s >= 0 && s < MOST_SLOTS && h >= 0 && h < MOST_HEARINGS) {
                there[s * MOST_HEARINGS + h] = i;
            }
        }

        void emptySlot(int s) {
            for (int h = 0; h < MOST_HEARINGS; h++) {
                putThere(s, h, NOTHING);
            }
        }

        void moveSlot(int from, int to) {
            for (int h = 0; h < MOST_HEARINGS; h++) {
                putThere(to, h, thereOf(from, h));
            }
        }

        void addJoined(int h, int cost) {
            if (h >= 0 && h < MOST_HEARINGS && joined >= 0 && joined < MOST_HEARINGS) {
                order[joined] = h;
                places[h] = joined;
                costs[h] = cost;
                joined++;
            }
        }
    }

    /** The latest ACTS: rules and net as they were ahead of each, in a ring. */
    private static final class Acts {
        private static final int KEPT = Rules.KEPT + Net.KEPT;

        int count = 0;
        private int next = 0;
        private final int[] kept = new int[MOST_ACTS * KEPT];

        void clear() {
            count = 0;
            next = 0;
        }

        void keep(Rules rules, Net net) {
            rules.keepIn(kept, next * KEPT);
            net.keepIn(kept, next * KEPT + Rules.KEPT);
            next = next + 1 < MOST_ACTS ? next + 1 : 0;
            count = count < MOST_ACTS ? count + 1 : MOST_ACTS;
        }

        void takeBack(Rules rules, Net net) {
            next = next > 0 ? next - 1 : MOST_ACTS - 1;
            rules.takeFrom(kept, next * KEPT);
            net.takeFrom(kept, next * KEPT + Rules.KEPT);
            count = count > 0 ? count - 1 : 0;
        }
    }

    /** VOTES in a SLOT, and what follows from them: HEARD, DOUBT, TIMES. */
    private static final class Ballot {
        int choices = 0;
        int total = 0;
        int heardCount = 0;
        final int[] heardWords = new int[MOST_SLOTS];
        private final int[] heardSlots = new int[MOST_SLOTS];
        private final int[] chosen = new int[MOST_HEARINGS];
        private final int[] points = new int[MOST_HEARINGS];
        /** DOUBT of each SLOT, not in lowest terms, and SLOTS by their DOUBT. */
        private final int[] doubtAbove = new int[MOST_SLOTS];
        private final int[] doubtBelow = new int[MOST_SLOTS];
        private final int[] ranked = new int[MOST_SLOTS];
        private final Speech speech;
        private final Rules rules;

        Ballot(Speech speech, Rules rules) {
            this.speech = speech;
            this.rules = rules;
        }

        /** Counts the VOTES in a SLOT and puts its CHOICES in order. */
        void tally(Net net, int s) {
            choices = 0;
            total = 0;
            for (int h = 0; h < MOST_HEARINGS; h++) {
                int i = net.thereOf(s, h);
                if (i >= 0) {
                    vote(speech.wordOf(h, i), WORD_SHARE * rules.weightOf(h));
                } else if (net.holds(h)) {
                    vote(GAP, rules.share * rules.weightOf(h));
                }
            }
            for (int c = 1; c < choices; c++) {
                moveAhead(c);
            }
        }

        private void vote(int choice, int more) {
            int c = 0;
            while (c < choices && chosen[c] != choice) {
                c++;
            }
            if (c >= MOST_HEARINGS) {
                return;
            }
            if (c == choices) {
                chosen[c] = choice;
                points[c] = 0;
                choices++;
            }
            points[c] += more;
            total += more;
        }

        /** Puts a CHOICE where it belongs among those ahead of it, which are in order. */
        private void moveAhead(int from) {
            int choice = chosen[from];
            int its = points[from];
            int to = from;
            while (to > 0 && (its > points[to - 1]
                    || its == points[to - 1] && choice < chosen[to - 1])) {
                chosen[to] = chosen[to - 1];
                points[to] = points[to - 1];
                to--;
            }
            chosen[to] = choice;
            points[to] = its;
        }

        /** The WORD of a CHOICE; NOTHING of the GAP, and beyond. */
        int wordOfChoice(int c) {
            return c >= 0 && c < choices && chosen[c] != GAP ? chosen[c] : NOTHING;
        }

        int pointsOfChoice(int c) {
            return c >= 0 && c < choices ? points[c] : 0;
        }

        /** DOUBT times the POINTS of all. */
        int doubtPoints() {
            return total - pointsOfChoice(0) + pointsOfChoice(1);
        }

        void listHeard(Net net) {
            heardCount = 0;
            for (int s = 0; s < net.slots; s++) {
                tally(net, s);
                int winner = wordOfChoice(0);
                if (winner >= 0 && heardCount < MOST_SLOTS) {
                    heardWords[heardCount] = winner;
                    heardSlots[heardCount] = s;
                    heardCount++;
                }
            }
        }

        int heardWord(int i) {
            return i >= 0 && i < heardCount ? heardWords[i] : NONE;
        }

        int heardSlot(int i) {
            return i >= 0 && i < heardCount ? heardSlots[i] : NONE;
        }

        /** DOUBT of all SLOTS, and SLOTS by it; like ones stay in the order of the row. */
        void listDoubts(Net net) {
            for (int s = 0; s < net.slots && s < MOST_SLOTS; s++) {
                tally(net, s);
                doubtAbove[s] = doubtPoints();
                doubtBelow[s] = total;
                int to = s;
                while (to > 0 && isMoreDoubtful(s, ranked[to - 1])) {
                    ranked[to] = ranked[to - 1];
                    to--;
                }
                ranked[to] = s;
            }
        }

        /** Crosswise in longs, since POINTS may be near 100,000 above and below. */
        private boolean isMoreDoubtful(int s, int than) {
            long here = (long) doubtAbove[s] * doubtBelow[than];
            long there = (long) doubtAbove[than] * doubtBelow[s];
            return here > there;
        }

        int mostDoubtful(int i) {
            return i >= 0 && i < MOST_SLOTS ? ranked[i] : NONE;
        }

        boolean isAboveHalf(int s) {
            return s >= 0 && s < MOST_SLOTS && 2 * doubtAbove[s] > doubtBelow[s];
        }

        /** TIME of a SLOT, by those alone who have this WORD there (ANY_WORD: by all). */
        int meanTime(Net net, int s, int w) {
            int above = 0;
            int below = 0;
            for (int h = 0; h < MOST_HEARINGS; h++) {
                int i = net.thereOf(s, h);
                if (i >= 0 && (w == ANY_WORD || speech.wordOf(h, i) == w)) {
                    above += rules.weightOf(h) * speech.timeOf(h, i);
                    below += rules.weightOf(h);
                }
            }
            return below > 0 ? above / below : 0;
        }
    }

    /** Finds the WAY of a HEARING into a net, and goes it. */
    private static final class Weaver {
        /** A row of the table: 0 to all SLOTS gone through. */
        private static final int WIDE = MOST_SLOTS + 1;

        private final Speech speech;
        private final Rules rules;
        private final Fars fars;
        private final Ballot ballot;
        /** With i words and s SLOTS gone through, at i * WIDE + s: the least cost of the rest. */
        private final int[] rest = new int[(MOST_EACH + 1) * WIDE];
        private final int[] stepAt = new int[(MOST_EACH + 1) * WIDE];
        private final int[] way = new int[MOST_SLOTS + MOST_EACH];
        private int steps = 0;
        /** Of the SLOT that was looked into last: the words THERE, how many, and its TIME. */
        private final int[] slotWords = new int[MOST_HEARINGS];
        private int slotCount = 0;
        private int slotTime = 0;

        Weaver(Speech speech, Rules rules, Fars fars, Ballot ballot) {
            this.speech = speech;
            this.rules = rules;
            this.fars = fars;
            this.ballot = ballot;
        }

        /** The COST of a HEARING that isn't JOINED; its WAY is kept till the next plan. */
        int plan(Net net, int h) {
            int count = speech.countOf(h);
            int slots = net.slots;
            steps = 0;
            if (count < 0 || count > MOST_EACH || slots < 0 || slots > MOST_SLOTS) {
                return TOO_DEAR;
            }
            for (int s = slots; s >= 0; s--) {
                if (s < slots) {
                    lookInto(net, s);
                }
                for (int i = count; i >= 0; i--) {
                    int here = i * WIDE + s;
                    int least = i == count && s == slots ? 0 : TOO_DEAR;
                    int step = MATCH;
                    if (i < count && s < slots) {
                        least = matchCost(h, i) + rest[here + WIDE + 1];
                    }
                    if (s < slots && rules.gap + rest[here + 1] < least) {
                        least = rules.gap + rest[here + 1];
                        step = SKIP;
                    }
                    if (i < count && rules.fresh + rest[here + WIDE] < least) {
                        least = rules.fresh + rest[here + WIDE];
                        step = NEW;
                    }
                    rest[here] = least;
                    stepAt[here] = step;
                }
            }
            followSteps(count, slots);
            return rest[0];
        }

        /** Once a SLOT, since each word of the HEARING is then held against the same words THERE. */
        private void lookInto(Net net, int s) {
            slotCount = 0;
            for (int h = 0; h < MOST_HEARINGS; h++) {
                int i = net.thereOf(s, h);
                if (i >= 0 && slotCount < MOST_HEARINGS) {
                    slotWords[slotCount] = speech.wordOf(h, i);
                    slotCount++;
                }
            }
            slotTime = ballot.meanTime(net, s, ANY_WORD);
        }

        private int matchCost(int h, int i) {
            int w = speech.wordOf(h, i);
            int least = rules.nearest;
            for (int c = 0; c < slotCount && least > 0; c++) {
                int apart = fars.apart(w, slotWords[c]);
                least = apart < least ? apart : least;
            }
            int late = speech.timeOf(h, i) - slotTime;
            return (late < 0 ? -late : late) > rules.window ? least + 1 : least;
        }

        /** Of like ways the best one lies where each step is the best of its place. */
        private void followSteps(int count, int slots) {
            int i = 0;
            int s = 0;
            for (int k = 0; k < way.length && (i < count || s < slots); k++) {
                way[k] = stepAt[i * WIDE + s];
                i += way[k] == SKIP ? 0 : 1;
                s += way[k] == NEW ? 0 : 1;
                steps = k + 1;
            }
        }

        int stepOf(int k) {
            return k >= 0 && k < steps ? way[k] : NOTHING;
        }

        /** JOINS a HEARING to a net; answers its COST. */
        int weave(Net net, int h) {
            if (h < 0 || h >= speech.hearings || net.holds(h)) {
                return 0;
            }
            int cost = plan(net, h);
            int i = speech.countOf(h);
            int s = net.slots;
            // From the end, since SLOTS move only to later places, so none is lost.
            for (int k = steps - 1; k >= 0; k--) {
                if (stepOf(k) == NEW) {
                    net.emptySlot(k);
                } else {
                    s--;
                    net.moveSlot(s, k);
                }
                if (stepOf(k) != SKIP) {
                    i--;
                    net.putThere(k, h, i);
                }
            }
            net.slots = steps;
            net.addJoined(h, cost);
            return cost;
        }

        /** Begins another net anew with all that are JOINED to this one, in their order, but one. */
        void weaveWithout(Net net, int left, Net into) {
            into.clear();
            for (int k = 0; k < net.joined; k++) {
                int h = net.joinedAt(k);
                if (h != left) {
                    weave(into, h);
                }
            }
        }
    }

    /** The best of all orders, kept until something changes. */
    private static final class Orders {
        int least = TOO_DEAR;
        private boolean isKnown = false;
        private final Speech speech;
        private final Weaver weaver;
        private final int[] first = new int[MOST_HEARINGS];
        /** The nets on the way to an order: the k-th has k JOINED. */
        private final Net[] nets = new Net[MOST_HEARINGS + 1];

        Orders(Speech speech, Weaver weaver) {
            this.speech = speech;
            this.weaver = weaver;
            for (int k = 0; k <= MOST_HEARINGS; k++) {
                nets[k] = new Net();
            }
        }

        void forget() {
            isKnown = false;
        }

        void find() {
            if (!isKnown) {
                least = TOO_DEAR;
                goOn(this, 0, 0);
                isKnown = true;
            }
        }

        int hearingAt(int i) {
            return i >= 0 && i < MOST_HEARINGS ? first[i] : NONE;
        }

        /** Goes through all orders by numbers; leaves those that can't be cheaper than the best yet. */
        private static void goOn(Orders all, int depth, int spent) {
            if (depth < 0 || depth > MOST_HEARINGS) {
                return;
            }
            Net net = all.nets[depth];
            if (net == null) {
                return;
            }
            if (depth == MOST_HEARINGS || depth == all.speech.hearings) {
                all.keepOrder(net, spent);
                return;
            }
            Net longer = all.nets[depth + 1];
            for (int h = 0; h < all.speech.hearings && longer != null; h++) {
                if (!net.holds(h)) {
                    longer.copyFrom(net);
                    int together = spent + all.weaver.weave(longer, h);
                    if (together < all.least) {
                        goOn(all, depth + 1, together);
                    }
                }
            }
        }

        private void keepOrder(Net net, int spent) {
            least = spent;
            for (int k = 0; k < MOST_HEARINGS; k++) {
                first[k] = net.joinedAt(k);
            }
        }
    }
}
