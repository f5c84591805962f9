import java.util.Arrays;

/** A booth of puppets with fewer hands than figures: its plays, its laws and its plans of hands. */
public final class SixHands {
    public static final int NONE = -1;

    private static final int REFUSED = -2;
    private static final int FEWEST_PLACES = 3;
    private static final int MOST_PLACES = 8;
    private static final int MOST_PUPPETEERS = 3;
    private static final int ALL_SETS = 8;
    private static final int MOST_HANDS = 6;
    private static final int MOST_REACH = 7;
    private static final int MOST_FIGURES = 6;
    private static final int MOST_WEIGHT = 99;
    private static final int MOST_HOOKS = 6;
    private static final int MOST_BEATS = 24;
    private static final int CELLS = MOST_BEATS * MOST_FIGURES;
    private static final int MOST_TEXTS = 4;
    private static final int MOST_BYTES = 300;
    private static final int FED_BYTES = 20;
    private static final int MOST_CLAUSES = 50;
    private static final int MOST_OPEN = 8;
    private static final int MOST_NUMBER = 9999;
    private static final int MOST_VALUE = 1000000;
    private static final int TWO_RODS = 2;
    /** Dearer than any plan: what can't be. */
    private static final int NEVER = 1000000;

    /** Six signs for each word, in the order of the tokens below. */
    private static final String WORDS =
        "or    and   not   may   pass  shows enter exit  go    hit   beat  at    figurekind  place who   right from  to    seat  many  ";
    private static final int WORD_WIDTH = 6;
    private static final int WORD_COUNT = 21;

    private static final int OR = 0;
    private static final int AND = 1;
    private static final int NOT = 2;
    private static final int MAY = 3;
    private static final int PASS = 4;
    private static final int SHOWS = 5;
    private static final int ENTER = 6;
    private static final int EXIT = 7;
    private static final int GO = 8;
    private static final int HIT = 9;
    private static final int BEAT = 10;
    private static final int AT = 11;
    private static final int FIGURE = 12;
    private static final int KIND = 13;
    private static final int PLACE = 14;
    private static final int WHO = 15;
    private static final int RIGHT = 16;
    private static final int FROM = 17;
    private static final int TO = 18;
    private static final int SEAT = 19;
    private static final int MANY = 20;
    private static final int LESS = 21;
    private static final int NOT_MORE = 22;
    private static final int MORE = 23;
    private static final int NOT_LESS = 24;
    private static final int LIKE = 25;
    private static final int UNLIKE = 26;
    private static final int PLUS = 27;
    private static final int MINUS = 28;
    private static final int TIMES = 29;
    private static final int OVER = 30;
    private static final int OPEN = 31;
    private static final int CLOSE = 32;
    private static final int COMMA = 33;
    private static final int SEMICOLON = 34;
    private static final int NUMBER = 35;
    private static final int END = 36;
    private static final int NO_TOKEN = 37;
    private static final int NEGATE = 38;

    private static final int LAWS = 3;
    private static final int COMMON_NAMES = 1 << FIGURE | 1 << KIND | 1 << PLACE | 1 << BEAT;
    private static final int MAY_NAMES = COMMON_NAMES | 1 << WHO | 1 << RIGHT;
    private static final int PASS_NAMES = COMMON_NAMES | 1 << FROM | 1 << TO;
    private static final int SHOWS_NAMES = COMMON_NAMES | 1 << SEAT | 1 << MANY;
    private static final int ALL_NAMES = MAY_NAMES | PASS_NAMES | SHOWS_NAMES;

    /** A law's code: numbers as they are, names and operators from these on. */
    private static final int NAME_CODE = 10000;
    private static final int OPERATOR_CODE = 20000;

    private final Stage stage;
    private final Stage kept;
    private final Text[] texts;
    private final Reader reader;
    private final Laws laws;
    private final Search search;
    private final Findings findings;

    public SixHands(int places) {
        int nearest = Math.max(FEWEST_PLACES, Math.min(MOST_PLACES, places));
        stage = new Stage(nearest);
        kept = new Stage(nearest);
        // One text more than can be told: the last stays empty and rules while none does.
        texts = new Text[MOST_TEXTS + 1];
        for (int i = 0; i < texts.length; i++) {
            texts[i] = new Text();
        }
        reader = new Reader();
        laws = new Laws();
        search = new Search();
        findings = new Findings();
    }

    public int puppeteer(int home, int reach) {
        if (home < 0 || home >= stage.places || reach < 0 || reach > MOST_REACH
                || stage.puppeteers >= MOST_PUPPETEERS) {
            return NONE;
        }
        changed();
        return stage.addPuppeteer(home, reach);
    }

    public int figure(int kind, int weight) {
        if (kind < 0 || kind > TWO_RODS || weight < 1 || weight > MOST_WEIGHT
                || stage.figures >= MOST_FIGURES) {
            return NONE;
        }
        changed();
        return stage.addFigure(kind, weight);
    }

    public boolean rules(int hooks, int limit) {
        if (hooks < 0 || hooks > MOST_HOOKS || limit < 0 || limit > MOST_BEATS) {
            return false;
        }
        changed();
        stage.hooks = hooks;
        stage.limit = limit;
        return true;
    }

    public int feed(int a, int b, int c, int d, int e) {
        Tape tape = reader.tape;
        if (tape.length + FED_BYTES > MOST_BYTES) {
            return NONE;
        }
        tape.add(a);
        tape.add(b);
        tape.add(c);
        tape.add(d);
        tape.add(e);
        return tape.length;
    }

    public int end(int n) {
        if (n < 0 || n > reader.tape.length) {
            return NONE;
        }
        reader.tape.length = n;
        return n;
    }

    public int text() {
        if (stage.texts >= MOST_TEXTS) {
            return NONE;
        }
        // A place behind all told texts is in no image either, so it may be written over.
        reader.read(texts[stage.texts]);
        reader.tape.length = 0;
        if (reader.latest != 0) {
            return NONE;
        }
        return stage.texts++;
    }

    public int fault(int what) {
        if (what == 0) {
            return reader.latest;
        }
        return what == 1 ? reader.latestPlace : NONE;
    }

    public boolean by(int text) {
        if (text != NONE && !isText(text)) {
            return false;
        }
        changed();
        stage.ruling = text;
        return true;
    }

    public int played(int text) {
        if (!isText(text)) {
            return REFUSED;
        }
        changed();
        Text played = texts[text];
        for (int i = 0; i < played.clauses; i++) {
            if (!stage.plays(played.verb[i], played.first[i], played.second[i])) {
                return i;
            }
        }
        return NONE;
    }

    public int clear() {
        changed();
        return stage.emptyPlay();
    }

    public int at(int beat, int figure) {
        if (!isFigure(figure)) {
            return REFUSED;
        }
        if (beat == NONE) {
            return stage.where[figure];
        }
        return isBeat(beat) ? stage.spot[beat * MOST_FIGURES + figure] : REFUSED;
    }

    public boolean hold(int beat, int figure, int hands) {
        if (!isBeat(beat) || !isFigure(figure) || hands < 0 || hands >= 1 << stage.hands()) {
            return false;
        }
        stage.plan[beat * MOST_FIGURES + figure] = hands;
        return true;
    }

    public int held(int beat, int figure) {
        if (!isBeat(beat) || !isFigure(figure)) {
            return NONE;
        }
        return stage.plan[beat * MOST_FIGURES + figure];
    }

    public int judge(int what) {
        if (what < 0 || what > 1) {
            return NONE;
        }
        laws.learn(stage, ruling());
        for (int beat = 0; beat < stage.beats; beat++) {
            int why = Judge.why(stage, laws, beat);
            if (why != 0) {
                return what == 0 ? beat : why;
            }
        }
        return what == 0 ? NONE : 0;
    }

    public int swaps() {
        int swaps = 0;
        for (int beat = 1; beat < stage.beats; beat++) {
            for (int figure = 0; figure < stage.figures; figure++) {
                if (stage.isSwapped(beat, figure)) {
                    swaps++;
                }
            }
        }
        return swaps;
    }

    public int longest(int hand) {
        if (hand < 0 || hand >= stage.hands()) {
            return NONE;
        }
        int most = 0;
        int run = 0;
        for (int beat = 0; beat < stage.beats; beat++) {
            run = (stage.busyHands(beat) >> hand & 1) == 0 ? 0 : run + 1;
            most = Math.max(most, run);
        }
        return most;
    }

    public int fewest(int set) {
        if (!isSet(set)) {
            return NONE;
        }
        if (!findings.planKnown[set]) {
            laws.learn(stage, ruling());
            search.load(stage, laws, set, 0);
            search.price = 1;
            int swaps = search.run(0);
            findings.planKnown[set] = true;
            findings.swaps[set] = swaps < NEVER ? swaps : NONE;
            if (swaps < NEVER) {
                search.write(findings.plans, set * CELLS);
            }
        }
        return findings.swaps[set];
    }

    public int found(int set, int beat, int figure) {
        if (!isBeat(beat) || !isFigure(figure) || fewest(set) == NONE) {
            return NONE;
        }
        return findings.plans[set * CELLS + beat * MOST_FIGURES + figure];
    }

    public int take(int set) {
        int swaps = fewest(set);
        if (swaps != NONE) {
            System.arraycopy(findings.plans, set * CELLS, stage.plan, 0, stage.beats * MOST_FIGURES);
        }
        return swaps;
    }

    public int least() {
        for (int many = 0; many <= stage.puppeteers; many++) {
            for (int set = 0; set < 1 << stage.puppeteers; set++) {
                if (Integer.bitCount(set) == many && fewest(set) != NONE) {
                    return set;
                }
            }
        }
        return NONE;
    }

    public int strike(int set, int what) {
        if (!isSet(set) || what < 0 || what > 1) {
            return NONE;
        }
        findStrike(set);
        return what == 0 ? findings.struck[set] : findings.lost[set];
    }

    public int ill(int who, int beat) {
        if (who < 0 || who >= stage.puppeteers || !isBeat(beat)) {
            return NONE;
        }
        laws.learn(stage, ruling());
        search.load(stage, laws, everybody() & ~(1 << who), 0);
        search.price = 1;
        int swaps = search.run(beat);
        if (swaps < NEVER && beat > 0) {
            swaps = search.fewestBehind(stage, beat);
        }
        return swaps < NEVER ? swaps : NONE;
    }

    public int bound(int set) {
        if (!isSet(set)) {
            return NONE;
        }
        laws.learn(stage, ruling());
        int bound = 0;
        for (int beat = 1; beat < stage.beats; beat++) {
            for (int figure = 0; figure < stage.figures; figure++) {
                int both = laws.fitting(beat, figure) & laws.fitting(beat - 1, figure);
                if (stage.staysOn(beat, figure) && (both & holdsOf(stage.kind[figure], set)) == 0) {
                    bound++;
                }
            }
        }
        return bound;
    }

    public int sees(int beat, int seat) {
        if (!isBeat(beat) || seat < 0 || seat >= stage.places) {
            return NONE;
        }
        int seen = 0;
        for (int figure = 0; figure < stage.figures; figure++) {
            if (stage.isOn(beat, figure) && laws.isShown(stage, ruling(), beat, figure, seat)) {
                seen |= 1 << figure;
            }
        }
        return seen;
    }

    public int image() {
        kept.become(stage);
        return stage.beats;
    }

    public int back() {
        changed();
        stage.become(kept);
        return stage.beats;
    }

    public int about(int what) {
        if (what >= 10 && what < 10 + stage.figures) {
            return stage.lines[what - 10];
        }
        if (what >= 20 && what < 20 + stage.hands()) {
            return stage.orderOf(what - 20);
        }
        switch (what) {
            case 0: return stage.places;
            case 1: return stage.puppeteers;
            case 2: return stage.figures;
            case 3: return stage.hooks;
            case 4: return stage.limit;
            case 5: return stage.texts;
            case 6: return stage.ruling;
            case 7: return stage.beats;
            case 8: return reader.tape.length;
            default: return REFUSED;
        }
    }

    private boolean isBeat(int beat) {
        return beat >= 0 && beat < stage.beats;
    }

    private boolean isFigure(int figure) {
        return figure >= 0 && figure < stage.figures;
    }

    private boolean isText(int text) {
        return text >= 0 && text < stage.texts;
    }

    private boolean isSet(int set) {
        return set >= 0 && set <= everybody();
    }

    private int everybody() {
        return (1 << stage.puppeteers) - 1;
    }

    private Text ruling() {
        return texts[isText(stage.ruling) ? stage.ruling : MOST_TEXTS];
    }

    /** What was learned and found holds only for the booth, the laws and the play as they were. */
    private void changed() {
        laws.learned = false;
        findings.forget();
    }

    private void findStrike(int set) {
        if (findings.strikeKnown[set]) {
            return;
        }
        findings.strikeKnown[set] = true;
        findings.struck[set] = NONE;
        findings.lost[set] = NONE;
        laws.learn(stage, ruling());
        int acting = stage.actingFigures();
        for (int struck = 0; struck < 1 << stage.figures; struck++) {
            // Striking one that is never on costs its lines and frees no hand.
            if ((struck & ~acting) != 0) {
                continue;
            }
            int lost = stage.weightOf(struck);
            if ((findings.lost[set] == NONE || lost < findings.lost[set]) && canBeActed(set, struck)) {
                findings.struck[set] = struck;
                findings.lost[set] = lost;
            }
        }
    }

    private boolean canBeActed(int set, int struck) {
        search.load(stage, laws, set, struck);
        search.price = 0;
        return search.run(0) < NEVER;
    }

    /** The holds (bits) by a set: of two rods by puppeteer, else by hand. */
    private static int holdsOf(int kind, int set) {
        if (kind == TWO_RODS) {
            return set;
        }
        int hands = 0;
        for (int p = 0; p < MOST_PUPPETEERS; p++) {
            if ((set >> p & 1) != 0) {
                hands |= 3 << 2 * p;
            }
        }
        return hands;
    }

    private static int handsOf(int kind, int hold) {
        return kind == TWO_RODS ? 3 << 2 * hold : 1 << hold;
    }

    private static int ownerOf(int kind, int hold) {
        return kind == TWO_RODS ? hold : hold >> 1;
    }

    /** The puppeteer of the lowest of some hands. */
    private static int ownerOfHands(int hands) {
        for (int p = 0; p < MOST_PUPPETEERS; p++) {
            if ((hands >> 2 * p & 3) != 0) {
                return p;
            }
        }
        return 0;
    }

    /** The bit of a pass among those of all puppeteers to all. */
    private static int passBit(int from, int to) {
        return 1 << from * MOST_PUPPETEERS + to;
    }

    /** The bit of the pass by which some hands become others; none can be if no hand was or is there. */
    private static int swapBit(int before, int now) {
        if (before == 0 || now == 0) {
            return 0;
        }
        return passBit(ownerOfHands(before), ownerOfHands(now));
    }

    /** All that an image keeps: the booth, the play and the plan. Cells are by beat, then by figure. */
    private static final class Stage {
        final int places;
        int puppeteers;
        final int[] home = new int[MOST_PUPPETEERS];
        final int[] reach = new int[MOST_PUPPETEERS];
        int figures;
        final int[] kind = new int[MOST_FIGURES];
        final int[] weight = new int[MOST_FIGURES];
        final int[] lines = new int[MOST_FIGURES];
        final int[] where = new int[MOST_FIGURES];
        int hooks;
        int limit;
        int texts;
        int ruling = NONE;
        int beats;
        final int[] spot = new int[CELLS];
        final int[] plan = new int[CELLS];

        Stage(int places) {
            this.places = places;
            Arrays.fill(where, NONE);
            Arrays.fill(spot, NONE);
        }

        void become(Stage other) {
            puppeteers = other.puppeteers;
            System.arraycopy(other.home, 0, home, 0, home.length);
            System.arraycopy(other.reach, 0, reach, 0, reach.length);
            figures = other.figures;
            System.arraycopy(other.kind, 0, kind, 0, kind.length);
            System.arraycopy(other.weight, 0, weight, 0, weight.length);
            System.arraycopy(other.lines, 0, lines, 0, lines.length);
            System.arraycopy(other.where, 0, where, 0, where.length);
            hooks = other.hooks;
            limit = other.limit;
            texts = other.texts;
            ruling = other.ruling;
            beats = other.beats;
            System.arraycopy(other.spot, 0, spot, 0, spot.length);
            System.arraycopy(other.plan, 0, plan, 0, plan.length);
        }

        int addPuppeteer(int itsHome, int itsReach) {
            home[puppeteers] = itsHome;
            reach[puppeteers] = itsReach;
            return puppeteers++;
        }

        /** Rows of figures that aren't told yet are off and without lines, so nothing else is to do. */
        int addFigure(int itsKind, int itsWeight) {
            kind[figures] = itsKind;
            weight[figures] = itsWeight;
            return figures++;
        }

        int emptyPlay() {
            int before = beats;
            beats = 0;
            Arrays.fill(lines, 0);
            Arrays.fill(where, NONE);
            Arrays.fill(spot, NONE);
            Arrays.fill(plan, 0);
            return before;
        }

        /** Does what a clause says; false, and nothing is done, if it can't be. */
        boolean plays(int verb, int first, int second) {
            switch (verb) {
                case ENTER: return isThere(first) && where[first] == NONE && comesTo(first, second);
                case EXIT: return isNowOn(first) && leaves(first);
                case GO: return isNowOn(first) && comesTo(first, second);
                case HIT: return first != second && isNowOn(first) && isNowOn(second) && hits(first, second);
                case BEAT: return endsBeat();
                default: return true;
            }
        }

        boolean isThere(int figure) {
            return figure >= 0 && figure < figures;
        }

        boolean isNowOn(int figure) {
            return isThere(figure) && where[figure] != NONE;
        }

        boolean comesTo(int figure, int place) {
            if (place < 0 || place >= places) {
                return false;
            }
            where[figure] = place;
            lines[figure]++;
            return true;
        }

        boolean leaves(int figure) {
            where[figure] = NONE;
            lines[figure]++;
            return true;
        }

        boolean hits(int one, int other) {
            if (Math.abs(where[one] - where[other]) > 1) {
                return false;
            }
            lines[one]++;
            lines[other]++;
            return true;
        }

        boolean endsBeat() {
            if (beats >= MOST_BEATS) {
                return false;
            }
            System.arraycopy(where, 0, spot, beats * MOST_FIGURES, MOST_FIGURES);
            beats++;
            return true;
        }

        int hands() {
            return 2 * puppeteers;
        }

        /** The place of a hand in the order of hands. */
        int orderOf(int hand) {
            int who = hand >> 1;
            int ahead = 0;
            for (int p = 0; p < puppeteers; p++) {
                if (home[p] < home[who] || home[p] == home[who] && p < who) {
                    ahead++;
                }
            }
            return 2 * ahead + (hand & 1);
        }

        boolean isInReach(int who, int place) {
            return Math.abs(home[who] - place) <= reach[who];
        }

        boolean isOn(int beat, int figure) {
            return spot[beat * MOST_FIGURES + figure] != NONE;
        }

        /** On in a beat and in the one ahead. */
        boolean staysOn(int beat, int figure) {
            return beat > 0 && isOn(beat, figure) && isOn(beat - 1, figure);
        }

        boolean isSwapped(int beat, int figure) {
            int cell = beat * MOST_FIGURES + figure;
            return staysOn(beat, figure) && plan[cell] != plan[cell - MOST_FIGURES];
        }

        int busyHands(int beat) {
            int busy = 0;
            for (int figure = 0; figure < figures; figure++) {
                busy |= plan[beat * MOST_FIGURES + figure];
            }
            return busy;
        }

        int actingFigures() {
            int acting = 0;
            for (int beat = 0; beat < beats; beat++) {
                for (int figure = 0; figure < figures; figure++) {
                    if (isOn(beat, figure)) {
                        acting |= 1 << figure;
                    }
                }
            }
            return acting;
        }

        int weightOf(int struck) {
            int sum = 0;
            for (int figure = 0; figure < figures; figure++) {
                if ((struck >> figure & 1) != 0) {
                    sum += weight[figure] * lines[figure];
                }
            }
            return sum;
        }
    }

    /** A text that was read: its clauses, and its laws as codes, each operator behind what it is for. */
    private static final class Text {
        int clauses;
        final int[] verb = new int[MOST_CLAUSES];
        final int[] first = new int[MOST_CLAUSES];
        final int[] second = new int[MOST_CLAUSES];
        int codes;
        final int[] code = new int[MOST_BYTES];
        final int[] lawStart = new int[LAWS];
        final int[] lawStop = new int[LAWS];

        void empty() {
            clauses = 0;
            codes = 0;
            Arrays.fill(lawStart, 0);
            Arrays.fill(lawStop, 0);
        }

        boolean hasLaw(int verb) {
            return lawStart[verb - MAY] < lawStop[verb - MAY];
        }

        void addClause(int itsVerb, int itsFirst, int itsSecond) {
            if (clauses < MOST_CLAUSES) {
                verb[clauses] = itsVerb;
                first[clauses] = itsFirst;
                second[clauses] = itsSecond;
                clauses++;
            }
        }

        void addCode(int itsCode) {
            if (codes < MOST_BYTES) {
                code[codes] = itsCode;
                codes++;
            }
        }
    }

    /** The tape, and the token at which it is being read. */
    private static final class Tape {
        final int[] bytes = new int[MOST_BYTES];
        int length;
        int next;
        int token;
        int start;
        int number;

        void add(int four) {
            for (int shift = 24; shift >= 0; shift -= 8) {
                if (length < MOST_BYTES) {
                    bytes[length] = four >>> shift & 255;
                    length++;
                }
            }
        }

        void rewind() {
            next = 0;
            advance();
        }

        void advance() {
            while (next < length && (bytes[next] == ' ' || bytes[next] == '\n')) {
                next++;
            }
            start = next;
            if (next >= length) {
                token = END;
            } else if (isLetter(bytes[next])) {
                takeWord();
            } else if (isDigit(bytes[next])) {
                takeNumber();
            } else {
                takeSign();
            }
        }

        static boolean isLetter(int sign) {
            return sign >= 'a' && sign <= 'z' || sign >= 'A' && sign <= 'Z';
        }

        static boolean isDigit(int sign) {
            return sign >= '0' && sign <= '9';
        }

        void takeWord() {
            while (next < length && isLetter(bytes[next])) {
                next++;
            }
            token = NO_TOKEN;
            for (int word = 0; word < WORD_COUNT && token == NO_TOKEN; word++) {
                if (isWord(word)) {
                    token = word;
                }
            }
        }

        boolean isWord(int word) {
            if (next - start > WORD_WIDTH) {
                return false;
            }
            for (int i = 0; i < WORD_WIDTH; i++) {
                int sign = start + i < next ? bytes[start + i] : ' ';
                if (sign != WORDS.charAt(word * WORD_WIDTH + i)) {
                    return false;
                }
            }
            return true;
        }

        void takeNumber() {
            token = NUMBER;
            number = 0;
            while (next < length && isDigit(bytes[next])) {
                number = Math.min(MOST_NUMBER + 1, number * 10 + bytes[next] - '0');
                next++;
            }
        }

        void takeSign() {
            int sign = bytes[next];
            next++;
            token = signToken(sign);
            if ((token == LESS || token == MORE) && next < length && bytes[next] == '=') {
                token = token == LESS ? NOT_MORE : NOT_LESS;
                next++;
            }
        }

        static int signToken(int sign) {
            switch (sign) {
                case '<': return LESS;
                case '>': return MORE;
                case '=': return LIKE;
                case '#': return UNLIKE;
                case '+': return PLUS;
                case '-': return MINUS;
                case '*': return TIMES;
                case '/': return OVER;
                case '(': return OPEN;
                case ')': return CLOSE;
                case ',': return COMMA;
                case ';': return SEMICOLON;
                default: return NO_TOKEN;
            }
        }
    }

    /** Reads the tape into a text, or to its first fault. */
    private static final class Reader {
        /** Eight open ones, two sums' operators around each, and one of each other kind are far less. */
        static final int MOST_WAITING = 64;

        final Tape tape = new Tape();
        int latest = NONE;
        int latestPlace = NONE;
        /** Operators that wait for what stands behind them. */
        final int[] waiting = new int[MOST_WAITING];
        int waits;
        int open;
        int brackets;
        /** Whether a ONE has just ended, so that an operator is due. */
        boolean behindOne;
        /** Whether the ASK has its comparison. */
        boolean compared;
        /** Whether an ASK begins here, so that not can stand. */
        boolean atAsk;

        void read(Text text) {
            text.empty();
            latest = 0;
            latestPlace = NONE;
            tape.rewind();
            // The clause behind the last that may be is a fault, so this ends.
            for (int n = 0; n <= MOST_CLAUSES && latest == 0 && tape.token != END; n++) {
                int verb = tape.token;
                int fault = faultOfVerb(text, verb);
                if (fault != 0) {
                    refuse(fault);
                } else if (isLaw(verb)) {
                    tape.advance();
                    readLaw(text, verb);
                } else {
                    tape.advance();
                    readDeed(text, verb);
                }
            }
        }

        void refuse(int fault) {
            latest = fault;
            latestPlace = tape.start;
        }

        static boolean isLaw(int verb) {
            return verb >= MAY && verb <= SHOWS;
        }

        static int faultOfVerb(Text text, int verb) {
            if (verb < MAY || verb > BEAT) {
                return 1;
            }
            if (isLaw(verb) && text.hasLaw(verb)) {
                return 4;
            }
            return text.clauses >= MOST_CLAUSES ? 6 : 0;
        }

        void readDeed(Text text, int verb) {
            int first = 0;
            int second = 0;
            if (verb != BEAT) {
                first = takeNumber(MOST_FIGURES - 1);
            }
            if (verb == ENTER || verb == GO || verb == HIT) {
                takeToken(verb == ENTER ? AT : verb == GO ? TO : COMMA);
                second = takeNumber(verb == HIT ? MOST_FIGURES - 1 : MOST_PLACES - 1);
            }
            takeToken(SEMICOLON);
            text.addClause(verb, first, second);
        }

        int takeNumber(int most) {
            int number = tape.number;
            if (latest != 0) {
                return 0;
            }
            if (tape.token != NUMBER) {
                refuse(1);
            } else if (number > most) {
                refuse(2);
            } else {
                tape.advance();
            }
            return number;
        }

        void takeToken(int due) {
            if (latest != 0) {
                return;
            }
            if (tape.token != due) {
                refuse(1);
            } else {
                tape.advance();
            }
        }

        void readLaw(Text text, int verb) {
            text.lawStart[verb - MAY] = text.codes;
            waits = 0;
            open = 0;
            brackets = 0;
            beginAsk();
            boolean ended = false;
            // Each round takes a token, which has a byte at least.
            for (int n = 0; n <= MOST_BYTES && latest == 0 && !ended; n++) {
                ended = behindOne && tape.token == SEMICOLON;
                if (behindOne) {
                    takeOperator(text);
                } else {
                    takeOperand(text, verb);
                }
                if (behindOne) {
                    settle(text, rankOf(NEGATE));
                }
                if (latest == 0) {
                    tape.advance();
                }
            }
            text.lawStop[verb - MAY] = text.codes;
            text.addClause(verb, 0, 0);
        }

        void beginAsk() {
            atAsk = true;
            compared = false;
            behindOne = false;
        }

        static int namesOf(int verb) {
            return verb == MAY ? MAY_NAMES : verb == PASS ? PASS_NAMES : SHOWS_NAMES;
        }

        static boolean isAmong(int token, int names) {
            return token <= MANY && (names >> token & 1) != 0;
        }

        void takeOperand(Text text, int verb) {
            int token = tape.token;
            if (token == OPEN || token == MINUS || token == NOT && atAsk) {
                openOne(token == MINUS ? NEGATE : token);
            } else if (token == NUMBER && tape.number > MOST_NUMBER) {
                refuse(2);
            } else if (token == NUMBER) {
                text.addCode(tape.number);
                behindOne = true;
            } else if (!isAmong(token, ALL_NAMES)) {
                refuse(1);
            } else if (!isAmong(token, namesOf(verb))) {
                refuse(5);
            } else {
                text.addCode(NAME_CODE + token);
                behindOne = true;
            }
            atAsk = token == NOT;
        }

        void openOne(int token) {
            if (open >= MOST_OPEN) {
                refuse(3);
                return;
            }
            open++;
            if (token == OPEN) {
                brackets++;
            }
            push(token);
        }

        void push(int token) {
            if (waits < MOST_WAITING) {
                waiting[waits] = token;
                waits++;
            }
        }

        void takeOperator(Text text) {
            int token = tape.token;
            boolean endsAsk = token == AND || token == OR || token == SEMICOLON;
            boolean compares = token >= LESS && token <= UNLIKE;
            boolean reckons = token >= PLUS && token <= OVER;
            if (token == CLOSE && brackets > 0) {
                closeBracket(text);
            } else if (reckons || compares && brackets == 0 && !compared) {
                settle(text, rankOf(token));
                push(token);
                behindOne = false;
                compared = compared || compares;
            } else if (endsAsk && brackets == 0 && compared) {
                settle(text, rankOf(token));
                push(token);
                beginAsk();
            } else {
                refuse(1);
            }
        }

        void closeBracket(Text text) {
            settle(text, 1);
            waits = Math.max(0, waits - 1);
            brackets--;
            open--;
        }

        /** Operators that bind as tightly as the rank, or tighter, have all that they are for. */
        void settle(Text text, int rank) {
            while (waits > 0 && rankOf(waiting[waits - 1]) >= rank) {
                waits--;
                int operator = waiting[waits];
                if (operator == NOT || operator == NEGATE) {
                    open--;
                }
                text.addCode(OPERATOR_CODE + operator);
            }
        }

        static int rankOf(int operator) {
            switch (operator) {
                case OPEN: return 0;
                case SEMICOLON: case OR: return 1;
                case AND: return 2;
                case NOT: return 3;
                case PLUS: case MINUS: return 5;
                case TIMES: case OVER: return 6;
                case NEGATE: return 7;
                default: return 4;
            }
        }
    }

    /** Laws asked for one case, and what they and the reaches say for all holds and passes of the play. */
    private static final class Laws {
        static final int MOST_VALUES = 64;

        final int[] names = new int[WORD_COUNT];
        final int[] values = new int[MOST_VALUES];
        boolean learned;
        /** For each cell the holds (bits) that are in reach, those of them that may be, and the passes. */
        private final int[] near = new int[CELLS];
        private final int[] fit = new int[CELLS];
        private final int[] pass = new int[CELLS];

        int nearing(int beat, int figure) {
            return near[beat * MOST_FIGURES + figure];
        }

        int fitting(int beat, int figure) {
            return fit[beat * MOST_FIGURES + figure];
        }

        int passing(int beat, int figure) {
            return pass[beat * MOST_FIGURES + figure];
        }

        void learn(Stage stage, Text text) {
            if (learned) {
                return;
            }
            learned = true;
            for (int beat = 0; beat < stage.beats; beat++) {
                for (int figure = 0; figure < stage.figures; figure++) {
                    int cell = beat * MOST_FIGURES + figure;
                    near[cell] = 0;
                    fit[cell] = 0;
                    pass[cell] = 0;
                    if (stage.isOn(beat, figure)) {
                        nameCase(stage, beat, figure);
                        learnHolds(stage, text, cell);
                    }
                    if (stage.staysOn(beat, figure)) {
                        learnPasses(stage, text, cell);
                    }
                }
            }
        }

        void nameCase(Stage stage, int beat, int figure) {
            names[FIGURE] = figure;
            names[KIND] = stage.kind[figure];
            names[PLACE] = stage.spot[beat * MOST_FIGURES + figure];
            names[BEAT] = beat;
        }

        void learnHolds(Stage stage, Text text, int cell) {
            int kind = names[KIND];
            int holds = kind == TWO_RODS ? stage.puppeteers : stage.hands();
            for (int hold = 0; hold < holds; hold++) {
                int who = ownerOf(kind, hold);
                if (stage.isInReach(who, names[PLACE])) {
                    near[cell] |= 1 << hold;
                    names[WHO] = who;
                    names[RIGHT] = kind == TWO_RODS ? 0 : hold & 1;
                    if (isSo(text, MAY)) {
                        fit[cell] |= 1 << hold;
                    }
                }
            }
        }

        void learnPasses(Stage stage, Text text, int cell) {
            for (int from = 0; from < stage.puppeteers; from++) {
                for (int to = 0; to < stage.puppeteers; to++) {
                    names[FROM] = from;
                    names[TO] = to;
                    if (isSo(text, PASS)) {
                        pass[cell] |= passBit(from, to);
                    }
                }
            }
        }

        boolean isShown(Stage stage, Text text, int beat, int figure, int seat) {
            nameCase(stage, beat, figure);
            names[SEAT] = seat;
            names[MANY] = 0;
            for (int other = 0; other < stage.figures; other++) {
                if (stage.spot[beat * MOST_FIGURES + other] == names[PLACE]) {
                    names[MANY]++;
                }
            }
            return isSo(text, SHOWS);
        }

        boolean isSo(Text text, int verb) {
            if (!text.hasLaw(verb)) {
                return true;
            }
            int size = 0;
            int stop = text.lawStop[verb - MAY];
            for (int i = text.lawStart[verb - MAY]; i < stop; i++) {
                int code = text.code[i];
                int operator = code - OPERATOR_CODE;
                if (operator < 0 && size < MOST_VALUES) {
                    values[size] = code >= NAME_CODE ? names[code - NAME_CODE] : code;
                    size++;
                } else if ((operator == NOT || operator == NEGATE) && size > 0) {
                    values[size - 1] = operator == NOT ? 1 - values[size - 1] : -values[size - 1];
                } else if (operator >= 0 && size > 1) {
                    size--;
                    values[size - 1] = reckon(operator, values[size - 1], values[size]);
                }
            }
            return values[0] != 0;
        }

        static int reckon(int operator, int left, int right) {
            switch (operator) {
                case OR: return left | right;
                case AND: return left & right;
                case LESS: return left < right ? 1 : 0;
                case NOT_MORE: return left <= right ? 1 : 0;
                case MORE: return left > right ? 1 : 0;
                case NOT_LESS: return left >= right ? 1 : 0;
                case LIKE: return left == right ? 1 : 0;
                case UNLIKE: return left != right ? 1 : 0;
                case PLUS: return cut(left + right);
                case MINUS: return cut(left - right);
                case TIMES: return cut((long) left * right);
                case OVER: return right == 0 ? 0 : left / right;
                default: return 0;
            }
        }

        static int cut(long value) {
            return (int) Math.max(-MOST_VALUE, Math.min(MOST_VALUE, value));
        }
    }

    /** Says whether a beat of the plan can be; each reason stands on those ahead of it. */
    private static final class Judge {
        static int why(Stage stage, Laws laws, int beat) {
            if (!isHeldAsWanted(stage, beat)) {
                return 1;
            }
            if (!isHeldApart(stage, beat)) {
                return 2;
            }
            if (!isEachAmong(stage, laws, beat, true)) {
                return 3;
            }
            if (isCrossed(stage, beat)) {
                return 4;
            }
            if (!isEachAmong(stage, laws, beat, false)) {
                return 5;
            }
            if (!isHung(stage, beat)) {
                return 6;
            }
            if (!isPassed(stage, laws, beat)) {
                return 7;
            }
            return isRested(stage, beat) ? 0 : 8;
        }

        static boolean isHeldAsWanted(Stage stage, int beat) {
            for (int figure = 0; figure < stage.figures; figure++) {
                int hands = stage.plan[beat * MOST_FIGURES + figure];
                if (!stage.isOn(beat, figure)) {
                    if (hands != 0) {
                        return false;
                    }
                } else if (hands == 0 || hands != wantedWith(stage.kind[figure], hands)) {
                    return false;
                }
            }
            return true;
        }

        /** The hands that a figure wants, if the lowest of some is among them. */
        static int wantedWith(int kind, int hands) {
            return kind == TWO_RODS ? 3 << 2 * ownerOfHands(hands) : hands & -hands;
        }

        static boolean isHeldApart(Stage stage, int beat) {
            int busy = 0;
            for (int figure = 0; figure < stage.figures; figure++) {
                int hands = stage.plan[beat * MOST_FIGURES + figure];
                if ((busy & hands) != 0) {
                    return false;
                }
                busy |= hands;
            }
            return true;
        }

        /** Whether each hold is among those in reach, or among those of them that may be. */
        static boolean isEachAmong(Stage stage, Laws laws, int beat, boolean reach) {
            for (int figure = 0; figure < stage.figures; figure++) {
                if (stage.isOn(beat, figure)) {
                    int hands = stage.plan[beat * MOST_FIGURES + figure];
                    int hold = stage.kind[figure] == TWO_RODS ? 1 << ownerOfHands(hands) : hands;
                    int holds = reach ? laws.nearing(beat, figure) : laws.fitting(beat, figure);
                    if ((holds & hold) == 0) {
                        return false;
                    }
                }
            }
            return true;
        }

        static boolean isCrossed(Stage stage, int beat) {
            for (int one = 0; one < stage.figures; one++) {
                for (int other = 0; other < stage.figures; other++) {
                    int cell = beat * MOST_FIGURES;
                    if (stage.spot[cell + one] > stage.spot[cell + other]
                            && isAnyAhead(stage, stage.plan[cell + one], stage.plan[cell + other])) {
                        return true;
                    }
                }
            }
            return false;
        }

        /** Whether one of some hands is ahead of one of others in the order. */
        static boolean isAnyAhead(Stage stage, int some, int others) {
            for (int a = 0; a < MOST_HANDS; a++) {
                for (int b = 0; b < MOST_HANDS; b++) {
                    if ((some >> a & 1) != 0 && (others >> b & 1) != 0
                            && stage.orderOf(a) < stage.orderOf(b)) {
                        return true;
                    }
                }
            }
            return false;
        }

        static boolean isHung(Stage stage, int beat) {
            int off = 0;
            for (int figure = 0; figure < stage.figures; figure++) {
                if (!stage.isOn(beat, figure)) {
                    off++;
                }
            }
            return off - stage.hooks <= stage.hands() - Integer.bitCount(stage.busyHands(beat));
        }

        static boolean isPassed(Stage stage, Laws laws, int beat) {
            for (int figure = 0; figure < stage.figures; figure++) {
                if (stage.isSwapped(beat, figure)) {
                    int cell = beat * MOST_FIGURES + figure;
                    int pass = swapBit(stage.plan[cell - MOST_FIGURES], stage.plan[cell]);
                    if ((laws.passing(beat, figure) & pass) == 0) {
                        return false;
                    }
                }
            }
            return true;
        }

        static boolean isRested(Stage stage, int beat) {
            if (stage.limit == 0) {
                return true;
            }
            int tired = stage.busyHands(beat);
            for (int back = 1; back <= stage.limit && tired != 0; back++) {
                tired = back > beat ? 0 : tired & stage.busyHands(beat - back);
            }
            return tired == 0;
        }
    }

    /**
     * Finds plans, from the last beat to the first. A state is the holds of a beat, three bits a figure,
     * figure 0 highest, so that of two states the lesser number is the one with the lesser holds.
     */
    private static final class Search {
        /** Six figures by six hands: no beat has more states. */
        static final int MOST_STATES = 720;
        static final int OFF = -1;

        int price;
        private int beats;
        private int figures;
        private int handsThere;
        private int hooks;
        private final int[] kind = new int[MOST_FIGURES];
        private final int[] order = new int[MOST_HANDS];
        /** For each cell: where (or OFF), which holds may be tried, which passes may be. */
        private final int[] spot = new int[CELLS];
        private final int[] holds = new int[CELLS];
        private final int[] pass = new int[CELLS];
        private final int[] states = new int[MOST_BEATS * MOST_STATES];
        /** What is to be paid for a state's beats behind it. */
        private final int[] togo = new int[MOST_BEATS * MOST_STATES];
        private final int[] count = new int[MOST_BEATS];
        private final int[] cheapest = new int[MOST_BEATS];
        private final int[] handSpot = new int[MOST_HANDS];

        /** The play as a set of puppeteers would act it, without the struck figures. */
        void load(Stage stage, Laws laws, int set, int struck) {
            beats = stage.beats;
            figures = stage.figures;
            handsThere = 2 * Integer.bitCount(set);
            hooks = stage.hooks;
            for (int hand = 0; hand < stage.hands(); hand++) {
                order[hand] = stage.orderOf(hand);
            }
            for (int figure = 0; figure < figures; figure++) {
                kind[figure] = stage.kind[figure];
                int open = holdsOf(kind[figure], set);
                for (int beat = 0; beat < beats; beat++) {
                    int cell = beat * MOST_FIGURES + figure;
                    spot[cell] = (struck >> figure & 1) != 0 ? OFF : stage.spot[cell];
                    holds[cell] = laws.fitting(beat, figure) & open;
                    pass[cell] = laws.passing(beat, figure);
                }
            }
        }

        /** The least price from a beat on, or NEVER. */
        int run(int first) {
            for (int beat = beats - 1; beat >= first; beat--) {
                count[beat] = 0;
                if (isRoomFor(beat)) {
                    lay(beat, 0, 0, 0);
                }
                priceAll(beat);
                if (cheapest[beat] >= NEVER) {
                    return NEVER;
                }
            }
            return first < beats ? cheapest[first] : 0;
        }

        /** Whether hands are enough for those on, and hooks and hands for all, whoever holds which. */
        boolean isRoomFor(int beat) {
            int wanted = 0;
            int off = 0;
            for (int figure = 0; figure < figures; figure++) {
                if (spot[beat * MOST_FIGURES + figure] == OFF) {
                    off++;
                } else {
                    wanted += kind[figure] == TWO_RODS ? 2 : 1;
                }
            }
            return wanted <= handsThere && wanted + off <= handsThere + hooks;
        }

        /** Lays all states of a beat that begin with a state of the figures ahead of one. */
        private void lay(int beat, int figure, int state, int busy) {
            if (figure >= figures) {
                keep(beat, state);
                return;
            }
            int cell = beat * MOST_FIGURES + figure;
            if (spot[cell] == OFF) {
                lay(beat, figure + 1, state << 3, busy);
                return;
            }
            for (int hold = 0; hold < MOST_HANDS; hold++) {
                if ((holds[cell] >> hold & 1) == 0) {
                    continue;
                }
                int hands = handsOf(kind[figure], hold);
                int lowest = kind[figure] == TWO_RODS ? 2 * hold : hold;
                if ((hands & busy) == 0 && !isCrossing(lowest, spot[cell], busy)) {
                    putHands(hands, spot[cell]);
                    lay(beat, figure + 1, state << 3 | hold, busy | hands);
                }
            }
        }

        void keep(int beat, int state) {
            if (count[beat] < MOST_STATES) {
                states[beat * MOST_STATES + count[beat]] = state;
                count[beat]++;
            }
        }

        /** Both hands of one are next to each other in the order, so the left one tells for both. */
        boolean isCrossing(int lowest, int place, int busy) {
            int mine = order[lowest];
            for (int hand = 0; hand < MOST_HANDS; hand++) {
                if ((busy >> hand & 1) != 0) {
                    boolean wrong = order[hand] < mine ? handSpot[hand] > place : handSpot[hand] < place;
                    if (wrong) {
                        return true;
                    }
                }
            }
            return false;
        }

        void putHands(int hands, int place) {
            for (int hand = 0; hand < MOST_HANDS; hand++) {
                if ((hands >> hand & 1) != 0) {
                    handSpot[hand] = place;
                }
            }
        }

        void priceAll(int beat) {
            int base = beat * MOST_STATES;
            boolean isLast = beat + 1 >= beats;
            int staying = isLast ? 0 : stayingBits(beat + 1);
            // With the same figures on, each state but the same one asks for a swap.
            int floor = isLast ? 0 : cheapest[beat + 1] + (isSameCast(beat + 1) ? price : 0);
            cheapest[beat] = NEVER;
            for (int i = base; i < base + count[beat]; i++) {
                togo[i] = isLast ? 0 : priceOnward(beat + 1, states[i], staying, floor);
                cheapest[beat] = Math.min(cheapest[beat], togo[i]);
            }
        }

        /** Whether those that are on in a beat are those of the one ahead. */
        boolean isSameCast(int beat) {
            for (int figure = 0; figure < figures; figure++) {
                int cell = beat * MOST_FIGURES + figure;
                if ((spot[cell] == OFF) != (spot[cell - MOST_FIGURES] == OFF)) {
                    return false;
                }
            }
            return true;
        }

        /** The bits in a state of the figures that are on in a beat and in the one ahead. */
        int stayingBits(int beat) {
            int bits = 0;
            for (int figure = 0; figure < figures; figure++) {
                int cell = beat * MOST_FIGURES + figure;
                bits <<= 3;
                if (spot[cell] != OFF && spot[cell - MOST_FIGURES] != OFF) {
                    bits |= 7;
                }
            }
            return bits;
        }

        /** The least price from a state of the beat ahead through a beat to the end; none is below the floor. */
        int priceOnward(int beat, int state, int staying, int floor) {
            int best = priceOfSame(beat, state);
            int base = beat * MOST_STATES;
            for (int i = base; i < base + count[beat] && best > floor; i++) {
                if (togo[i] < best) {
                    best = Math.min(best, togo[i] + priceOfSwaps(beat, state, states[i], staying));
                }
            }
            return best;
        }

        /** What is to be paid if a state goes on into a beat; the beat's states are in rising order. */
        int priceOfSame(int beat, int state) {
            int low = beat * MOST_STATES;
            int high = low + count[beat] - 1;
            while (low <= high) {
                int middle = (low + high) / 2;
                if (states[middle] == state) {
                    return togo[middle];
                }
                if (states[middle] < state) {
                    low = middle + 1;
                } else {
                    high = middle - 1;
                }
            }
            return NEVER;
        }

        int priceOfSwaps(int beat, int before, int now, int staying) {
            int unlike = (before ^ now) & staying;
            int sum = 0;
            for (int figure = figures - 1; figure >= 0 && unlike != 0; figure--) {
                if ((unlike & 7) != 0) {
                    int shift = shiftOf(figure);
                    int from = ownerOf(kind[figure], before >> shift & 7);
                    int to = ownerOf(kind[figure], now >> shift & 7);
                    if ((pass[beat * MOST_FIGURES + figure] & passBit(from, to)) == 0) {
                        return NEVER;
                    }
                    sum += price;
                }
                unlike >>= 3;
            }
            return sum;
        }

        int shiftOf(int figure) {
            return 3 * (figures - 1 - figure);
        }

        int handsIn(int state, int figure) {
            return handsOf(kind[figure], state >> shiftOf(figure) & 7);
        }

        /** Writes the first of the cheapest plans, as hands; to be called behind a run from beat 0. */
        void write(int[] plans, int start) {
            int before = 0;
            int due = beats > 0 ? cheapest[0] : 0;
            for (int beat = 0; beat < beats; beat++) {
                int i = firstAt(beat, before, due);
                before = states[i];
                due = togo[i];
                // Rows of figures that aren't told stay empty too: one that comes later is held by none.
                for (int figure = 0; figure < MOST_FIGURES; figure++) {
                    int cell = beat * MOST_FIGURES + figure;
                    boolean isOff = figure >= figures || spot[cell] == OFF;
                    plans[start + cell] = isOff ? 0 : handsIn(before, figure);
                }
            }
        }

        /** The first state of a beat by which all that is still due is paid. */
        int firstAt(int beat, int before, int due) {
            int base = beat * MOST_STATES;
            int staying = beat > 0 ? stayingBits(beat) : 0;
            for (int i = base; i < base + count[beat]; i++) {
                if (togo[i] + priceOfSwaps(beat, before, states[i], staying) == due) {
                    return i;
                }
            }
            return base;
        }

        /** The fewest swaps behind the told plan's beat ahead; to be called behind a run from a beat. */
        int fewestBehind(Stage stage, int beat) {
            int best = NEVER;
            int base = beat * MOST_STATES;
            for (int i = base; i < base + count[beat]; i++) {
                best = Math.min(best, togo[i] + swapsFromTold(stage, beat, states[i]));
            }
            return best;
        }

        int swapsFromTold(Stage stage, int beat, int state) {
            int sum = 0;
            for (int figure = 0; figure < figures; figure++) {
                int told = stage.plan[(beat - 1) * MOST_FIGURES + figure];
                int hands = handsIn(state, figure);
                if (stage.staysOn(beat, figure) && told != hands) {
                    if ((pass[beat * MOST_FIGURES + figure] & swapBit(told, hands)) == 0) {
                        return NEVER;
                    }
                    sum++;
                }
            }
            return sum;
        }
    }

    /** What was found for each set of puppeteers, until something changes. */
    private static final class Findings {
        final boolean[] planKnown = new boolean[ALL_SETS];
        final int[] swaps = new int[ALL_SETS];
        final int[] plans = new int[ALL_SETS * CELLS];
        final boolean[] strikeKnown = new boolean[ALL_SETS];
        final int[] struck = new int[ALL_SETS];
        final int[] lost = new int[ALL_SETS];

        void forget() {
            for (int set = 0; set < ALL_SETS; set++) {
                planKnown[set] = false;
                strikeKnown[set] = false;
            }
        }
    }
}
