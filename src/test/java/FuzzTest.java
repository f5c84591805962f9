import java.util.Random;

/** Runs of calls by chance (of fixed seeds), each answer held against the oracle's. */
public final class FuzzTest {
    private final Random random;
    private final Pair pair;

    private FuzzTest(long seed) {
        random = new Random(seed);
        pair = new Pair(random.nextInt(12) - 1);
    }

    public static void main(String[] args) {
        int runs = args.length > 0 ? Integer.parseInt(args[0]) : 3000;
        int first = args.length > 1 ? Integer.parseInt(args[1]) : 0;
        int wrong = 0;
        for (int seed = first; seed < first + runs && wrong < 3; seed++) {
            FuzzTest test = new FuzzTest(seed);
            switch (seed % 100 == 0 ? 4 : seed % 4) {
                case 0 -> test.run();
                case 1 -> test.askAll();
                case 2 -> test.goBack();
                case 3 -> test.callAny();
                default -> test.fillBooth();
            }
            if (test.pair.differs) {
                wrong++;
                System.out.println("seed " + seed);
                test.pair.told.forEach(line -> System.out.println("  " + line));
            }
        }
        System.out.println(wrong == 0 ? runs + " runs are as due" : "runs differ");
        if (wrong != 0) {
            System.exit(1);
        }
    }

    private int below(int n) {
        return random.nextInt(n);
    }

    private boolean chance(int percent) {
        return below(100) < percent;
    }

    private int near(int low, int high) {
        return chance(4) ? (chance(50) ? low - 1 : high + 1) : low + below(high - low + 1);
    }

    private void run() {
        int size = below(3);
        int puppeteers = 1 + below(3);
        int figures = 1 + below(size == 0 ? 6 : 4);
        for (int i = 0; i < puppeteers; i++) {
            pair.call("puppeteer", near(0, pair.theirs.places - 1), chance(50) ? 7 : near(0, 7));
        }
        for (int i = 0; i < figures; i++) {
            pair.call("figure", chance(20) ? 2 : near(0, 2), near(1, 99));
        }
        pair.call("rules", chance(50) ? 6 : near(0, 6), chance(60) ? 0 : near(0, 24));
        if (chance(70)) {
            playSome(3);
            pair.call("image");
        }
        for (int i = 0; i < 45 && !pair.differs; i++) {
            step(size == 0 ? 5 : 12);
        }
    }

    private void step(int mostBeats) {
        switch (below(26)) {
            case 0, 1 -> playSome(mostBeats);
            case 2 -> ruleSome();
            case 3 -> spoilText();
            case 4 -> pair.call("by", near(-1, 3));
            case 5 -> pair.call("played", near(0, 3));
            case 6 -> holdSome();
            case 7 -> holdSome();
            case 8 -> pair.call("judge", near(0, 1));
            case 9 -> askPlan();
            case 10 -> pair.call("fewest", near(0, 7));
            case 11 -> pair.call("found", near(0, 7), near(0, 6), near(0, 5));
            case 12 -> pair.call("take", near(0, 7));
            case 13 -> pair.call("least");
            case 14 -> pair.call("strike", near(0, 7), near(0, 1));
            case 15 -> pair.call("ill", near(0, 2), near(0, Math.max(1, pair.theirs.about(7) - 1)));
            case 16 -> pair.call("bound", near(0, 7));
            case 17 -> pair.call("sees", near(0, 6), near(0, 7));
            case 18 -> pair.call("image");
            case 19 -> pair.call("back");
            case 20 -> pair.call("about", below(30) - 1);
            case 21 -> pair.call("at", near(-1, 6), near(0, 5));
            case 22 -> booth();
            case 23 -> tape();
            case 24 -> pair.call("longest", near(0, 5));
            default -> takeAndSpoil();
        }
    }

    private void spoilText() {
        for (int i = 0; i < 3; i++) {
            makeRoom();
            pair.read(spoiled(chance(50) ? laws() : play(4)));
            faults();
        }
    }

    /** A booth that can act much of its play, and every question that there is about it. */
    private void askAll() {
        int puppeteers = 2 + below(2);
        int figures = 2 + below(3);
        for (int i = 0; i < puppeteers; i++) {
            pair.call("puppeteer", below(pair.theirs.places), 2 + below(6));
        }
        for (int i = 0; i < figures; i++) {
            pair.call("figure", chance(12) ? 2 : below(2), 1 + below(5));
        }
        pair.call("rules", chance(70) ? figures : below(3), 0);
        playSome(3 + below(5));
        if (chance(70)) {
            ruleSome();
        }
        int beats = pair.theirs.about(7);
        for (int set = 0; set <= pair.theirs.everybody(); set++) {
            pair.call("fewest", set);
            pair.call("bound", set);
            pair.call("strike", set, 0);
            pair.call("strike", set, 1);
        }
        pair.call("least");
        int set = chance(70) ? pair.theirs.everybody() : below(8);
        pair.call("take", set);
        for (int beat = 0; beat < beats; beat++) {
            for (int f = 0; f < figures; f++) {
                pair.call("found", set, beat, f);
                pair.call("held", beat, f);
            }
            for (int seat = 0; seat < pair.theirs.places; seat++) {
                pair.call("sees", beat, seat);
            }
        }
        spoilPlan(puppeteers, figures, beats);
    }

    /** Goes back to images of booths that lack much of what was told behind them, and tells other things there. */
    private void goBack() {
        for (int i = 0; i < 3 && !pair.differs; i++) {
            tellSome(below(3));
            if (chance(60)) {
                playSome(2 + below(3));
            }
            if (chance(60)) {
                pair.call("image");
            }
            tellSome(1 + below(4));
            playSome(2 + below(4));
            if (chance(40)) {
                ruleSome();
            }
            searchSome();
            askState();
            pair.call("back");
            askState();
            if (chance(70)) {
                playSome(2 + below(4));
            }
            searchSome();
            tellSome(1 + below(3));
            askState();
            searchSome();
        }
    }

    /** Calls in any order, each method as likely as the others but for those that build. */
    private void callAny() {
        String[] asks = {"at", "held", "judge", "swaps", "longest", "fewest", "found", "take", "take", "least", "strike", "ill", "bound",
            "sees", "image", "back", "back", "about", "hold", "hold", "clear", "by", "played", "played", "played", "played", "fault",
            "text", "end"};
        // Texts, but few figures: what is told behind this image goes with back, and the texts can be played again.
        readShort();
        readShort();
        tellSome(below(4));
        pair.call("image");
        for (int i = 0; i < 150 && !pair.differs; i++) {
            if (chance(25)) {
                tellSome(1);
            } else if (chance(15)) {
                readShort();
            } else {
                callOne(asks[below(asks.length)]);
            }
        }
    }

    private void readShort() {
        String[] plays = {"beat;enter 0 at 0;", "enter 0 at 1;beat;", "enter 1 at 0;beat;", "beat;enter 2 at 2;", "beat;go 0 to 2;beat;",
            "exit 0;beat;", "hit 0,1;beat;", "enter 3 at 1;beat;", "may who#figure;", "may right=0;", "pass from<to;", "pass to=1;",
            "shows seat<place;", "shows many=1;beat;", "exit 1;enter 1 at 1;", "may beat<2;beat;"};
        int text = pair.read(plays[below(plays.length)]);
        pair.call(chance(70) ? "played" : "by", text);
    }

    private void callOne(String name) {
        int beats = Math.max(1, pair.theirs.about(7));
        int beat = near(0, Math.min(beats, 9) - 1);
        int set = chance(50) ? pair.theirs.everybody() : near(0, 7);
        switch (name) {
            case "at", "held" -> pair.call(name, beat, near(0, 3));
            case "judge", "fault" -> pair.call(name, near(0, 1));
            case "longest" -> pair.call(name, near(0, 5));
            case "fewest", "take", "bound" -> pair.call(name, set);
            case "found" -> pair.call(name, set, beat, near(0, 3));
            case "strike" -> pair.call(name, set, near(0, 1));
            case "ill" -> pair.call(name, near(0, 2), beat);
            case "sees" -> pair.call(name, beat, near(0, 7));
            case "about" -> pair.call(name, below(30) - 1);
            case "hold" -> pair.call(name, beat, near(0, 3), chance(60) ? 1 << below(6) : near(0, 63));
            case "by", "played" -> pair.call(name, near(-1, 3));
            case "end" -> pair.call(name, near(0, 20));
            default -> pair.call(name);
        }
    }

    /** All puppeteers, all figures and all beats that there can be; laws keep the oracle's search short. */
    private void fillBooth() {
        String[] laws = {"may who=figure/2 and right=figure+beat/7-(figure+beat/7)/2*2;shows many>seat;", "may who=figure/2 or right*beat=7;pass from=to;shows many=6 or seat=0;",
            "may who=figure-figure/3*3;shows many/2=seat;", "may who=figure/2 and beat<9 or who=(5-figure)/2 and beat>8;shows seat+many=7;"};
        for (int i = 0; i < 3; i++) {
            pair.call("puppeteer", 1 + below(2), 7);
        }
        for (int i = 0; i < 6; i++) {
            pair.call("figure", chance(5) ? 2 : below(2), 1 + below(99));
        }
        pair.call("rules", below(7), below(25));
        pair.call("by", pair.read(laws[below(laws.length)]));
        pair.call("played", pair.read("enter 0 at 1;enter 1 at 1;enter 2 at 1;enter 3 at 1;enter 4 at 1;enter 5 at 1;beat;beat;beat;"));
        StringBuilder moves = new StringBuilder();
        for (int i = 0; i < 8; i++) {
            int f = below(6);
            moves.append(chance(90) ? "" : "go " + below(6) + " to " + below(3) + ";beat;");
            moves.append("exit ").append(f).append(";beat;enter ").append(f).append(" at 1;beat;");
        }
        pair.call("played", pair.read(moves.toString()));
        int beat = pair.read("beat;");
        while (pair.call("played", beat) == -1 && !pair.differs) {
            pair.call("about", 7);
        }
        askState();
        pair.call("take", 7);
        askState();
        for (int b = 12; b < 24; b++) {
            for (int f = 0; f < 6; f++) {
                pair.call("at", b, f);
                pair.call("held", b, f);
                pair.call("found", 6, b, f);
            }
        }
        for (int b = 0; b < 24; b++) {
            for (int seat = 0; seat < pair.theirs.places; seat++) {
                pair.call("sees", b, seat);
            }
        }
        pair.call("strike", 7, 0);
        pair.call("bound", 5);
    }

    private void tellSome(int many) {
        for (int i = 0; i < many; i++) {
            if (chance(40)) {
                pair.call("puppeteer", near(0, pair.theirs.places - 1), 2 + below(6));
            } else if (chance(80)) {
                pair.call("figure", chance(15) ? 2 : below(2), near(1, 9));
            } else {
                pair.call("rules", chance(60) ? 6 : below(6), below(5));
            }
        }
    }

    private void searchSome() {
        int everybody = pair.theirs.everybody();
        for (int i = 0; i < 4; i++) {
            int set = chance(70) ? everybody : below(8);
            switch (below(8)) {
                case 0, 1 -> pair.call("fewest", set);
                case 2, 3, 4 -> pair.call("take", set);
                case 5 -> pair.call("strike", set, below(2));
                case 6 -> pair.call("least");
                default -> holdSome();
            }
        }
    }

    /** Every answer about what is told and played, for figures and hands that aren't there too. */
    private void askState() {
        for (int what = 0; what < 26; what++) {
            pair.call("about", what);
        }
        for (int beat = -1; beat <= Math.min(12, pair.theirs.about(7)); beat++) {
            for (int f = 0; f < 6; f++) {
                pair.call("at", beat, f);
                pair.call("held", beat, f);
            }
            pair.call("sees", beat, below(pair.theirs.places));
            pair.call("ill", below(3), beat);
        }
        for (int hand = 0; hand < 6; hand++) {
            pair.call("longest", hand);
        }
        pair.call("swaps");
        pair.call("judge", 0);
        pair.call("judge", 1);
        pair.call("bound", pair.theirs.everybody());
    }

    private void spoilPlan(int puppeteers, int figures, int beats) {
        for (int i = 0; i < 12 && beats > 0; i++) {
            for (int who = 0; who < puppeteers; who++) {
                pair.call("ill", who, below(beats));
            }
            int beat = below(beats);
            int f = below(figures);
            int hands = chance(75) ? 1 << below(2 * puppeteers) : chance(60) ? 3 << 2 * below(puppeteers) : below(64);
            int before = pair.theirs.held(beat, f);
            pair.call("hold", beat, f, hands);
            if (chance(30)) {
                pair.call("rules", chance(50) ? 6 : below(4), chance(50) ? 0 : 1 + below(4));
            }
            askPlan();
            if (chance(70)) {
                pair.call("hold", beat, f, before);
            }
        }
    }

    private void booth() {
        switch (below(5)) {
            case 0 -> pair.call("puppeteer", near(0, 7), near(0, 7));
            case 1 -> pair.call("figure", near(0, 2), near(1, 99));
            case 2 -> pair.call("clear");
            default -> pair.call("rules", near(0, 6), chance(60) ? 0 : near(0, 24));
        }
    }

    private void tape() {
        switch (below(5)) {
            case 0 -> pair.call("feed", random.nextInt(), random.nextInt(), random.nextInt(), 0, random.nextInt());
            case 1 -> pair.call("end", below(40) - 1);
            case 2 -> pair.call("text");
            case 3 -> pair.put(play(2));
            default -> pair.call("fault", near(0, 1));
        }
    }

    private void askPlan() {
        pair.call("judge", 0);
        pair.call("judge", 1);
        pair.call("swaps");
        pair.call("longest", below(6));
        pair.call("held", near(0, 6), near(0, 5));
    }

    private void takeAndSpoil() {
        pair.call("take", pair.theirs.everybody());
        askPlan();
        for (int i = 0; i < 4; i++) {
            holdSome();
            askPlan();
            pair.call("ill", below(3), near(0, Math.max(1, pair.theirs.about(7) - 1)));
        }
    }

    private void holdSome() {
        int beats = Math.max(1, pair.theirs.about(7));
        int hands = chance(60) ? 1 << below(6) : chance(60) ? 3 << 2 * below(3) : near(0, 63);
        pair.call("hold", near(0, beats - 1), below(6), hands);
    }

    private void makeRoom() {
        if (pair.theirs.about(5) == 4 && chance(90)) {
            pair.call("back");
        }
    }

    private void playSome(int mostBeats) {
        makeRoom();
        if (pair.theirs.about(7) >= mostBeats) {
            pair.call("clear");
        }
        int text = pair.read(play(2 + below(mostBeats)));
        faults();
        pair.call("played", text);
    }

    private void faults() {
        pair.call("fault", 0);
        pair.call("fault", 1);
    }

    private void ruleSome() {
        makeRoom();
        int text = pair.read(laws());
        faults();
        pair.call("by", text);
    }

    private String blank() {
        return chance(85) ? "" : chance(50) ? " " : "\n ";
    }

    /** Mostly clauses that can be, as the play stands. */
    private String play(int beats) {
        StringBuilder text = new StringBuilder();
        int[] where = pair.theirs.world.where.clone();
        int figures = Math.max(1, pair.theirs.about(2));
        int places = pair.theirs.places;
        int done = 0;
        for (int i = 0; i < 40 && done < beats && text.length() < 270; i++) {
            int f = below(figures);
            int place = below(places);
            if (chance(40)) {
                text.append("beat").append(blank()).append(";");
                done++;
            } else if (where[f] == -1) {
                text.append("enter ").append(f).append(blank()).append("at ").append(place).append(";");
                where[f] = place;
            } else if (chance(15)) {
                text.append("exit ").append(f).append(";");
                where[f] = -1;
            } else if (chance(60)) {
                text.append("go ").append(f).append(" to ").append(place).append(blank()).append(";");
                where[f] = place;
            } else if (chance(40)) {
                text.append("hit ").append(f).append(blank()).append(",").append(below(figures)).append(";");
            }
        }
        return text.toString();
    }

    private String laws() {
        StringBuilder text = new StringBuilder();
        if (chance(60)) {
            text.append("may ").append(either("who", "right")).append(";");
        }
        if (chance(60)) {
            text.append("pass ").append(either("from", "to")).append(";");
        }
        if (chance(40)) {
            text.append("shows ").append(either("seat", "many")).append(";");
        }
        return text.length() > 300 ? "may who>=0;" : text.toString();
    }

    private String either(String one, String other) {
        StringBuilder text = new StringBuilder(ask(one, other));
        int more = below(3);
        for (int i = 0; i < more; i++) {
            text.append(chance(70) ? " or " : " and ").append(ask(one, other));
        }
        return text.toString();
    }

    private String ask(String one, String other) {
        String[] signs = {"<", "<=", ">", ">=", "=", "#"};
        return (chance(20) ? "not " : "") + (chance(5) ? "not not " : "") + sum(one, other, 2) + blank()
            + signs[below(6)] + sum(one, other, 2);
    }

    private String sum(String one, String other, int depth) {
        StringBuilder text = new StringBuilder(single(one, other, depth));
        while (chance(30)) {
            text.append("+-*/".charAt(below(4))).append(blank()).append(single(one, other, depth));
        }
        return text.toString();
    }

    private String single(String one, String other, int depth) {
        String[] names = {"figure", "kind", "place", "beat", one, other, one, other};
        if (depth > 0 && chance(15)) {
            return "(" + sum(one, other, depth - 1) + ")";
        }
        if (chance(8)) {
            return "-" + single(one, other, depth - 1);
        }
        if (chance(40)) {
            return "" + (chance(90) ? below(5) : below(10000));
        }
        return names[below(8)];
    }

    /** A text with some of its tokens or bytes changed. */
    private String spoiled(String text) {
        StringBuilder bad = new StringBuilder(text);
        String[] bits = {"(", ")", "not ", "-", "- - ", ";", "may ", "pass ", "shows ", "who", "to", "at", "beat;", "10000", "9999",
            "6", "8", "and ", "or ", "<", "=", "<=", ",", "#", "?", "\t", " ", "((((", "-----", "not not not ", "Figure", "x", "seat",
            "1*2-(((((((", "-------", "not not not not not not ", "from", "many", "right", "may 1=1;", "pass 1=1;"};
        int times = 1 + below(3);
        for (int i = 0; i < times; i++) {
            int place = below(bad.length() + 1);
            if (chance(60)) {
                bad.insert(place, bits[below(bits.length)]);
            } else if (place < bad.length() && chance(60)) {
                bad.deleteCharAt(place);
            } else if (place < bad.length()) {
                bad.setCharAt(place, (char) below(256));
            }
        }
        if (bad.length() > 300) {
            bad.setLength(300);
        }
        return bad.toString();
    }
}
