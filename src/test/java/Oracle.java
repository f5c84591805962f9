import java.util.ArrayList;
import java.util.Arrays;
import java.util.HashMap;
import java.util.List;
import java.util.Map;
import java.util.TreeMap;

/** The document once more, as slowly and as plainly as it can be said, to hold the class against. */
public final class Oracle {
    static final class Fault extends RuntimeException {
        private static final long serialVersionUID = 1L;
        final int code;
        final int place;

        Fault(int code, int place) {
            this.code = code;
            this.place = place;
        }
    }

    interface Value {
        long of(Map<String, Integer> names);
    }

    interface Truth {
        boolean of(Map<String, Integer> names);
    }

    record Token(String word, int place) { }

    record Clause(String verb, int first, int second) { }

    static final class Script {
        final List<Clause> clauses = new ArrayList<>();
        final Map<String, Truth> laws = new HashMap<>();
    }

    static final class World {
        List<int[]> puppeteers = new ArrayList<>();
        List<int[]> figures = new ArrayList<>();
        int hooks;
        int limit;
        List<Script> texts = new ArrayList<>();
        int ruling = -1;
        int[] where = {-1, -1, -1, -1, -1, -1};
        int[] lines = new int[6];
        List<int[]> play = new ArrayList<>();
        List<int[]> plan = new ArrayList<>();

        World copy() {
            World w = new World();
            w.puppeteers.addAll(puppeteers);
            w.figures.addAll(figures);
            w.hooks = hooks;
            w.limit = limit;
            w.texts.addAll(texts);
            w.ruling = ruling;
            w.where = where.clone();
            w.lines = lines.clone();
            for (int[] row : play) {
                w.play.add(row.clone());
            }
            for (int[] row : plan) {
                w.plan.add(row.clone());
            }
            return w;
        }
    }

    final int places;
    World world = new World();
    World image = new World();
    StringBuilder tape = new StringBuilder();
    int faultCode = -1;
    int faultPlace = -1;

    public Oracle(int places) {
        this.places = places < 3 ? 3 : places > 8 ? 8 : places;
    }

    // ---- the booth

    public int puppeteer(int home, int reach) {
        if (home < 0 || home > places - 1 || reach < 0 || reach > 7 || world.puppeteers.size() == 3) {
            return -1;
        }
        world.puppeteers.add(new int[] {home, reach});
        return world.puppeteers.size() - 1;
    }

    public int figure(int kind, int weight) {
        if (kind < 0 || kind > 2 || weight < 1 || weight > 99 || world.figures.size() == 6) {
            return -1;
        }
        world.figures.add(new int[] {kind, weight});
        return world.figures.size() - 1;
    }

    public boolean rules(int hooks, int limit) {
        if (hooks < 0 || hooks > 6 || limit < 0 || limit > 24) {
            return false;
        }
        world.hooks = hooks;
        world.limit = limit;
        return true;
    }

    int hands() {
        return world.puppeteers.size() * 2;
    }

    List<Integer> order() {
        List<Integer> order = new ArrayList<>();
        for (int h = 0; h < hands(); h++) {
            order.add(h);
        }
        order.sort((x, y) -> {
            int hx = world.puppeteers.get(x / 2)[0];
            int hy = world.puppeteers.get(y / 2)[0];
            return hx != hy ? Integer.compare(hx, hy) : Integer.compare(x, y);
        });
        return order;
    }

    // ---- texts

    public int feed(int a, int b, int c, int d, int e) {
        if (tape.length() + 20 > 300) {
            return -1;
        }
        for (int w : new int[] {a, b, c, d, e}) {
            tape.append((char) (w >>> 24)).append((char) (w >>> 16 & 255));
            tape.append((char) (w >>> 8 & 255)).append((char) (w & 255));
        }
        return tape.length();
    }

    public int end(int n) {
        if (n < 0 || n > tape.length()) {
            return -1;
        }
        tape.setLength(n);
        return n;
    }

    public int text() {
        if (world.texts.size() == 4) {
            return -1;
        }
        String bytes = tape.toString();
        tape.setLength(0);
        try {
            Script script = new Parser(bytes).script();
            world.texts.add(script);
            faultCode = 0;
            faultPlace = -1;
            return world.texts.size() - 1;
        } catch (Fault f) {
            faultCode = f.code;
            faultPlace = f.place;
            return -1;
        }
    }

    public int fault(int what) {
        return what == 0 ? faultCode : what == 1 ? faultPlace : -1;
    }

    static final class Parser {
        static final List<String> VERBS = List.of("may", "pass", "shows", "enter", "exit", "go", "hit", "beat");
        static final Map<String, List<String>> NAMES = Map.of(
            "may", List.of("figure", "kind", "place", "beat", "who", "right"),
            "pass", List.of("figure", "kind", "place", "beat", "from", "to"),
            "shows", List.of("figure", "kind", "place", "beat", "seat", "many"));

        final String bytes;
        int next;
        Token now;
        String law;

        Parser(String bytes) {
            this.bytes = bytes;
            step();
        }

        void step() {
            while (next < bytes.length() && (bytes.charAt(next) == 32 || bytes.charAt(next) == 10)) {
                next++;
            }
            int from = next;
            if (next == bytes.length()) {
                now = new Token("", next);
                return;
            }
            String rest = bytes.substring(next);
            String found = "?";
            for (String pattern : new String[] {"[a-zA-Z]+", "[0-9]+", "<=|>=|[<>=#+*/(),;-]"}) {
                java.util.regex.Matcher m = java.util.regex.Pattern.compile(pattern).matcher(rest);
                if (m.lookingAt()) {
                    found = m.group();
                }
            }
            next += found.length();
            now = new Token(found, from);
        }

        boolean is(String word) {
            return now.word.equals(word);
        }

        boolean isNumber() {
            return now.word.matches("[0-9]+");
        }

        Fault wrong(int code) {
            return new Fault(code, now.place);
        }

        void want(String word) {
            if (!is(word)) {
                throw wrong(1);
            }
            step();
        }

        int number(int most) {
            if (!isNumber()) {
                throw wrong(1);
            }
            if (new java.math.BigInteger(now.word).compareTo(java.math.BigInteger.valueOf(most)) > 0) {
                throw wrong(2);
            }
            int n = Integer.parseInt(now.word);
            step();
            return n;
        }

        Script script() {
            Script script = new Script();
            while (!is("")) {
                String verb = now.word;
                if (!VERBS.contains(verb)) {
                    throw wrong(1);
                }
                if (script.laws.containsKey(verb)) {
                    throw wrong(4);
                }
                if (script.clauses.size() == 50) {
                    throw wrong(6);
                }
                step();
                int first = 0;
                int second = 0;
                switch (verb) {
                    case "enter" -> { first = number(5); want("at"); second = number(7); }
                    case "exit" -> first = number(5);
                    case "go" -> { first = number(5); want("to"); second = number(7); }
                    case "hit" -> { first = number(5); want(","); second = number(5); }
                    case "beat" -> { }
                    default -> { law = verb; script.laws.put(verb, either()); }
                }
                want(";");
                script.clauses.add(new Clause(verb, first, second));
            }
            return script;
        }

        Truth either() {
            Truth left = both();
            while (is("or")) {
                step();
                Truth a = left;
                Truth b = both();
                left = n -> a.of(n) | b.of(n);
            }
            return left;
        }

        Truth both() {
            Truth left = ask(0);
            while (is("and")) {
                step();
                Truth a = left;
                Truth b = ask(0);
                left = n -> a.of(n) & b.of(n);
            }
            return left;
        }

        void mayOpen(int open) {
            if (open == 8) {
                throw wrong(3);
            }
        }

        Truth ask(int open) {
            if (is("not")) {
                mayOpen(open);
                step();
                Truth a = ask(open + 1);
                return n -> !a.of(n);
            }
            Value left = sum(open);
            String op = now.word;
            if (!List.of("<", "<=", ">", ">=", "=", "#").contains(op)) {
                throw wrong(1);
            }
            step();
            Value right = sum(open);
            return n -> {
                int c = Long.compare(left.of(n), right.of(n));
                return switch (op) {
                    case "<" -> c < 0;
                    case "<=" -> c <= 0;
                    case ">" -> c > 0;
                    case ">=" -> c >= 0;
                    case "=" -> c == 0;
                    default -> c != 0;
                };
            };
        }

        static long cut(long v) {
            return v > 1000000 ? 1000000 : v < -1000000 ? -1000000 : v;
        }

        Value sum(int open) {
            Value left = product(open);
            while (is("+") || is("-")) {
                boolean plus = is("+");
                step();
                Value a = left;
                Value b = product(open);
                left = n -> cut(plus ? a.of(n) + b.of(n) : a.of(n) - b.of(n));
            }
            return left;
        }

        Value product(int open) {
            Value left = one(open);
            while (is("*") || is("/")) {
                boolean times = is("*");
                step();
                Value a = left;
                Value b = one(open);
                left = n -> {
                    long x = a.of(n);
                    long y = b.of(n);
                    return times ? cut(x * y) : y == 0 ? 0 : x / y;
                };
            }
            return left;
        }

        Value one(int open) {
            if (isNumber()) {
                int v = number(9999);
                return n -> v;
            }
            if (is("(")) {
                mayOpen(open);
                step();
                Value v = sum(open + 1);
                want(")");
                return v;
            }
            if (is("-")) {
                mayOpen(open);
                step();
                Value v = one(open + 1);
                return n -> -v.of(n);
            }
            String name = now.word;
            boolean any = NAMES.values().stream().anyMatch(l -> l.contains(name));
            if (!any) {
                throw wrong(1);
            }
            if (!NAMES.get(law).contains(name)) {
                throw wrong(5);
            }
            step();
            return n -> n.get(name);
        }
    }

    public boolean by(int text) {
        if (text < -1 || text >= world.texts.size()) {
            return false;
        }
        world.ruling = text;
        return true;
    }

    public int played(int text) {
        if (text < 0 || text >= world.texts.size()) {
            return -2;
        }
        List<Clause> clauses = world.texts.get(text).clauses;
        for (int i = 0; i < clauses.size(); i++) {
            if (!done(clauses.get(i))) {
                return i;
            }
        }
        return -1;
    }

    boolean done(Clause c) {
        int f = c.first;
        int[] where = world.where;
        boolean there = f < world.figures.size();
        switch (c.verb) {
            case "enter":
                if (!there || where[f] != -1 || c.second >= places) {
                    return false;
                }
                where[f] = c.second;
                world.lines[f]++;
                return true;
            case "exit":
                if (!there || where[f] == -1) {
                    return false;
                }
                where[f] = -1;
                world.lines[f]++;
                return true;
            case "go":
                if (!there || where[f] == -1 || c.second >= places) {
                    return false;
                }
                where[f] = c.second;
                world.lines[f]++;
                return true;
            case "hit":
                int g = c.second;
                if (!there || g >= world.figures.size() || f == g || where[f] == -1 || where[g] == -1
                        || Math.abs(where[f] - where[g]) > 1) {
                    return false;
                }
                world.lines[f]++;
                world.lines[g]++;
                return true;
            case "beat":
                if (world.play.size() == 24) {
                    return false;
                }
                world.play.add(where.clone());
                world.plan.add(new int[6]);
                return true;
            default:
                return true;
        }
    }

    public int clear() {
        int n = world.play.size();
        world.play.clear();
        world.plan.clear();
        Arrays.fill(world.where, -1);
        Arrays.fill(world.lines, 0);
        return n;
    }

    boolean beatOk(int beat) {
        return beat >= 0 && beat < world.play.size();
    }

    boolean figureOk(int figure) {
        return figure >= 0 && figure < world.figures.size();
    }

    public int at(int beat, int figure) {
        if (!figureOk(figure) || beat != -1 && !beatOk(beat)) {
            return -2;
        }
        return beat == -1 ? world.where[figure] : world.play.get(beat)[figure];
    }

    public boolean hold(int beat, int figure, int hands) {
        if (!beatOk(beat) || !figureOk(figure) || hands < 0 || hands > 63 || hands >> hands() != 0) {
            return false;
        }
        world.plan.get(beat)[figure] = hands;
        return true;
    }

    public int held(int beat, int figure) {
        return beatOk(beat) && figureOk(figure) ? world.plan.get(beat)[figure] : -1;
    }

    // ---- laws and judging

    boolean lawSo(String law, int beat, int figure, int place, Object... more) {
        Truth truth = world.ruling == -1 ? null : world.texts.get(world.ruling).laws.get(law);
        if (truth == null) {
            return true;
        }
        Map<String, Integer> names = new HashMap<>();
        names.put("figure", figure);
        names.put("kind", world.figures.get(figure)[0]);
        names.put("place", place);
        names.put("beat", beat);
        for (int i = 0; i < more.length; i += 2) {
            names.put((String) more[i], (Integer) more[i + 1]);
        }
        return truth.of(names);
    }

    static int lowest(int hands) {
        for (int h = 0; h < 6; h++) {
            if ((hands >> h & 1) == 1) {
                return h;
            }
        }
        return -1;
    }

    boolean wanted(int figure, int hands) {
        if (world.figures.get(figure)[0] == 2) {
            return hands == 3 || hands == 12 || hands == 48;
        }
        return Integer.bitCount(hands) == 1;
    }

    boolean reaches(int hands, int place) {
        for (int h = 0; h < 6; h++) {
            if ((hands >> h & 1) == 1) {
                int[] p = world.puppeteers.get(h / 2);
                if (Math.abs(p[0] - place) > p[1]) {
                    return false;
                }
            }
        }
        return true;
    }

    boolean mayHold(int beat, int figure, int place, int hands) {
        int h = lowest(hands);
        return lawSo("may", beat, figure, place, "who", h / 2, "right",
            Integer.bitCount(hands) == 1 && h % 2 == 1 ? 1 : 0);
    }

    /** Reasons 1 to 6 for one beat, by hands of a set alone; spots as struck figures leave them. */
    int whyAlone(int beat, int[] spots, int[] plan, int set) {
        int n = world.figures.size();
        for (int f = 0; f < n; f++) {
            if (spots[f] == -1 ? plan[f] != 0 : !wanted(f, plan[f])) {
                return 1;
            }
        }
        int[] holder = new int[6];
        Arrays.fill(holder, -1);
        for (int f = 0; f < n; f++) {
            for (int h = 0; h < 6; h++) {
                if ((plan[f] >> h & 1) == 1) {
                    if (holder[h] != -1) {
                        return 2;
                    }
                    holder[h] = f;
                }
            }
        }
        for (int f = 0; f < n; f++) {
            if (!reaches(plan[f], spots[f])) {
                return 3;
            }
        }
        List<Integer> order = order();
        for (int i = 0; i < order.size(); i++) {
            for (int j = i + 1; j < order.size(); j++) {
                int a = holder[order.get(i)];
                int b = holder[order.get(j)];
                if (a != -1 && b != -1 && spots[a] > spots[b]) {
                    return 4;
                }
            }
        }
        int off = 0;
        for (int f = 0; f < n; f++) {
            if (spots[f] == -1) {
                off++;
            } else if (!mayHold(beat, f, spots[f], plan[f])) {
                return 5;
            }
        }
        int free = 0;
        for (int h = 0; h < hands(); h++) {
            if ((set >> h / 2 & 1) == 1 && holder[h] == -1) {
                free++;
            }
        }
        return Math.max(0, off - world.hooks) > free ? 6 : 0;
    }

    /** How many are swapped into a beat, or -1 if one can't be. */
    int swapped(int beat, int[] spotsBefore, int[] before, int[] spots, int[] now) {
        int swaps = 0;
        for (int f = 0; f < world.figures.size(); f++) {
            if (spotsBefore[f] != -1 && spots[f] != -1 && before[f] != now[f]) {
                swaps++;
                if (before[f] == 0 || !lawSo("pass", beat, f, spots[f],
                        "from", lowest(before[f]) / 2, "to", lowest(now[f]) / 2)) {
                    return -1;
                }
            }
        }
        return swaps;
    }

    int everybody() {
        return (1 << world.puppeteers.size()) - 1;
    }

    boolean holdsAny(int beat, int hand) {
        for (int f = 0; f < world.figures.size(); f++) {
            if ((world.plan.get(beat)[f] >> hand & 1) == 1) {
                return true;
            }
        }
        return false;
    }

    int why(int beat) {
        int why = whyAlone(beat, world.play.get(beat), world.plan.get(beat), everybody());
        if (why != 0) {
            return why;
        }
        if (beat > 0 && swapped(beat, world.play.get(beat - 1), world.plan.get(beat - 1),
                world.play.get(beat), world.plan.get(beat)) == -1) {
            return 7;
        }
        for (int h = 0; h < hands(); h++) {
            int run = 0;
            for (int b = beat; b >= 0 && holdsAny(b, h); b--) {
                run++;
            }
            if (world.limit > 0 && run > world.limit) {
                return 8;
            }
        }
        return 0;
    }

    public int judge(int what) {
        if (what != 0 && what != 1) {
            return -1;
        }
        for (int b = 0; b < world.play.size(); b++) {
            int why = why(b);
            if (why != 0) {
                return what == 0 ? b : why;
            }
        }
        return what == 0 ? -1 : 0;
    }

    public int swaps() {
        int n = 0;
        for (int b = 1; b < world.play.size(); b++) {
            for (int f = 0; f < world.figures.size(); f++) {
                if (world.play.get(b)[f] != -1 && world.play.get(b - 1)[f] != -1
                        && world.plan.get(b)[f] != world.plan.get(b - 1)[f]) {
                    n++;
                }
            }
        }
        return n;
    }

    public int longest(int hand) {
        if (hand < 0 || hand >= hands()) {
            return -1;
        }
        int best = 0;
        for (int from = 0; from < world.play.size(); from++) {
            int b = from;
            while (b < world.play.size() && holdsAny(b, hand)) {
                b++;
            }
            best = Math.max(best, b - from);
        }
        return best;
    }

    // ---- what is sought

    boolean setOk(int set) {
        return set >= 0 && set <= everybody();
    }

    int[] spotsOf(int beat, int struck) {
        int[] spots = world.play.get(beat).clone();
        for (int f = 0; f < 6; f++) {
            if ((struck >> f & 1) == 1) {
                spots[f] = -1;
            }
        }
        return spots;
    }

    /** All plans of one beat that can be alone, with the least holds first. */
    List<int[]> rows(int beat, int[] spots, int set) {
        List<int[]> rows = new ArrayList<>();
        rows.add(new int[6]);
        for (int f = 0; f < world.figures.size(); f++) {
            List<int[]> longer = new ArrayList<>();
            for (int[] row : rows) {
                if (spots[f] == -1) {
                    longer.add(row);
                    continue;
                }
                for (int hands = 1; hands < 64; hands++) {
                    if (!wanted(f, hands) || hands >> hands() != 0) {
                        continue;
                    }
                    if ((set >> lowest(hands) / 2 & 1) == 0) {
                        continue;
                    }
                    boolean taken = false;
                    for (int g = 0; g < f; g++) {
                        taken |= (row[g] & hands) != 0;
                    }
                    if (!taken) {
                        int[] more = row.clone();
                        more[f] = hands;
                        longer.add(more);
                    }
                }
            }
            rows = longer;
        }
        List<int[]> good = new ArrayList<>();
        for (int[] row : rows) {
            if (whyAlone(beat, spots, row, set) == 0) {
                good.add(row);
            }
        }
        return good;
    }

    record Way(int swaps, List<int[]> plan) {
        boolean betterThan(Way other) {
            if (other == null || swaps != other.swaps) {
                return other == null || swaps < other.swaps;
            }
            for (int b = 0; b < plan.size(); b++) {
                int c = Arrays.compare(plan.get(b), other.plan.get(b));
                if (c != 0) {
                    return c < 0;
                }
            }
            return false;
        }
    }

    /** The best way from a beat on; told: what was held in the beat ahead, or null. */
    Way best(int set, int struck, int from, int[] told) {
        Map<String, Way> ways = new TreeMap<>();
        ways.put("", new Way(0, List.of()));
        for (int b = from; b < world.play.size(); b++) {
            int[] spots = spotsOf(b, struck);
            Map<String, Way> longer = new TreeMap<>();
            List<int[]> rows = rows(b, spots, set);
            for (Way way : ways.values()) {
                int[] before = b > from ? way.plan.get(way.plan.size() - 1) : told;
                for (int[] row : rows) {
                    int more = before == null ? 0 : swapped(b, spotsOf(b - 1, struck), before, spots, row);
                    if (more == -1) {
                        continue;
                    }
                    String key = Arrays.toString(row);
                    Way old = longer.get(key);
                    if (old != null && old.swaps < way.swaps + more) {
                        continue;
                    }
                    List<int[]> plan = new ArrayList<>(way.plan);
                    plan.add(row);
                    Way next = new Way(way.swaps + more, plan);
                    if (next.betterThan(old)) {
                        longer.put(key, next);
                    }
                }
            }
            ways = longer;
        }
        Way best = null;
        for (Way way : ways.values()) {
            if (way.betterThan(best)) {
                best = way;
            }
        }
        return best;
    }

    public int fewest(int set) {
        Way way = setOk(set) ? best(set, 0, 0, null) : null;
        return way == null ? -1 : way.swaps;
    }

    public int found(int set, int beat, int figure) {
        Way way = setOk(set) && beatOk(beat) && figureOk(figure) ? best(set, 0, 0, null) : null;
        return way == null ? -1 : way.plan.get(beat)[figure];
    }

    public int take(int set) {
        Way way = setOk(set) ? best(set, 0, 0, null) : null;
        if (way == null) {
            return -1;
        }
        for (int b = 0; b < world.plan.size(); b++) {
            world.plan.set(b, way.plan.get(b).clone());
        }
        return way.swaps;
    }

    public int least() {
        int best = -1;
        for (int set = 0; set <= everybody(); set++) {
            if (best(set, 0, 0, null) != null
                    && (best == -1 || Integer.bitCount(set) < Integer.bitCount(best))) {
                best = set;
            }
        }
        return best;
    }

    public int strike(int set, int what) {
        if (!setOk(set) || what != 0 && what != 1) {
            return -1;
        }
        int bestSet = -1;
        int best = -1;
        for (int struck = 0; struck < 1 << world.figures.size(); struck++) {
            int weight = 0;
            for (int f = 0; f < world.figures.size(); f++) {
                weight += (struck >> f & 1) * world.figures.get(f)[1] * world.lines[f];
            }
            if ((best == -1 || weight < best) && best(set, struck, 0, null) != null) {
                best = weight;
                bestSet = struck;
            }
        }
        return what == 0 ? bestSet : best;
    }

    public int ill(int who, int beat) {
        if (who < 0 || who >= world.puppeteers.size() || !beatOk(beat)) {
            return -1;
        }
        Way way = best(everybody() - (1 << who), 0, beat, beat == 0 ? null : world.plan.get(beat - 1));
        return way == null ? -1 : way.swaps;
    }

    public int bound(int set) {
        if (!setOk(set)) {
            return -1;
        }
        int bound = 0;
        for (int b = 1; b < world.play.size(); b++) {
            for (int f = 0; f < world.figures.size(); f++) {
                int now = world.play.get(b)[f];
                int before = world.play.get(b - 1)[f];
                if (now == -1 || before == -1) {
                    continue;
                }
                boolean any = false;
                for (int hands = 1; hands < 1 << hands(); hands++) {
                    any |= wanted(f, hands) && (set >> lowest(hands) / 2 & 1) == 1
                        && reaches(hands, now) && reaches(hands, before)
                        && mayHold(b, f, now, hands) && mayHold(b - 1, f, before, hands);
                }
                bound += any ? 0 : 1;
            }
        }
        return bound;
    }

    public int sees(int beat, int seat) {
        if (!beatOk(beat) || seat < 0 || seat >= places) {
            return -1;
        }
        int seen = 0;
        int[] spots = world.play.get(beat);
        for (int f = 0; f < world.figures.size(); f++) {
            if (spots[f] == -1) {
                continue;
            }
            int many = 0;
            for (int g = 0; g < world.figures.size(); g++) {
                many += spots[g] == spots[f] ? 1 : 0;
            }
            if (lawSo("shows", beat, f, spots[f], "seat", seat, "many", many)) {
                seen |= 1 << f;
            }
        }
        return seen;
    }

    public int image() {
        image = world.copy();
        return world.play.size();
    }

    public int back() {
        world = image.copy();
        return world.play.size();
    }

    public int about(int what) {
        if (what >= 10 && what < 10 + world.figures.size()) {
            return world.lines[what - 10];
        }
        if (what >= 20 && what < 20 + hands()) {
            return order().indexOf(what - 20);
        }
        return switch (what) {
            case 0 -> places;
            case 1 -> world.puppeteers.size();
            case 2 -> world.figures.size();
            case 3 -> world.hooks;
            case 4 -> world.limit;
            case 5 -> world.texts.size();
            case 6 -> world.ruling;
            case 7 -> world.play.size();
            case 8 -> tape.length();
            default -> -2;
        };
    }
}
