/** Boundary cases of the document, sentence by sentence: the booth, the image and about (promises 1 to 4 and 26 to 28). */
public final class BoothBoundaryTest {
    private BoothBoundaryTest() { }

    public static void main(String[] args) {
        calls();
        placesOfTheBooth();
        puppeteersByNumber();
        homesAndReaches();
        handsByNumber();
        handsInOrder();
        figuresByNumber();
        kindsAndWeights();
        hooksAtFirst();
        limitAtFirst();
        nearestPlaces();
        firstImage();
        whoIsTold();
        puppeteersRefused();
        figureIsOff();
        figuresRefused();
        rulesTaken();
        rulesRefused();
        imageOfAll();
        imageWithoutTheTape();
        imageAnswers();
        backAgain();
        aboutEach();
        aboutLines();
        aboutOrder();
        aboutRefused();
        Due.close();
    }

    private static void calls() {
        Due.says(0, "An object is used for at most 512 calls after it has been made; what later calls answer is free.");
        Pair pair = new Pair(8);
        int[] words = Due.words("may who=0;beat;beat;").get(0);
        for (int round = 0; round < 51; round++) {
            pair.call("puppeteer", round % 8, 7);
            pair.call("figure", round % 3, 1 + round);
            pair.call("feed", words);
            pair.call("text");
            pair.call("by", round % 4);
            pair.call("played", 0);
            pair.call("take", round % 8);
            pair.call("strike", round % 8, 1);
            pair.call("ill", round % 3, round % 24);
            pair.call(round % 7 == 6 ? "back" : "image");
        }
        Due.is("the 511th call", 24, pair.ours.about(7));
        Due.is("the 512th call", 0, pair.ours.fewest(7));
        Due.no("one of the 510 ahead differs", pair.differs);
    }

    private static void placesOfTheBooth() {
        Due.says(0, "PLACES 0 .. P - 1 above the ledge.");
        for (int places = 3; places <= 8; places++) {
            SixHands x = new SixHands(places);
            x.figure(0, 1);
            int last = places - 1;
            Due.is("to the first and the last of " + places, -1, Due.play(x, "enter 0 at 0;beat;go 0 to " + last + ";beat;"));
            Due.is("the first", 0, x.at(0, 0));
            Due.is("the last", last, x.at(1, 0));
            if (places < 8) {
                Due.is("behind the last of " + places, 0, Due.play(x, "go 0 to " + places + ";"));
                Due.is("it stays", last, x.at(-1, 0));
            }
        }
    }

    private static void puppeteersByNumber() {
        Due.says(0, "PUPPETEERS 0 .. 2 (told one by one):");
        SixHands x = new SixHands(3);
        for (int told = 0; told <= 3; told++) {
            Due.is("told", told, x.about(1));
            Due.is("the last set of " + told, 0, x.fewest((1 << told) - 1));
            Due.is("a set with one that isn't told", -1, x.fewest(1 << told));
            Due.is("numbered as told", told < 3 ? told : -1, x.puppeteer(0, 0));
        }
    }

    private static void homesAndReaches() {
        Due.says(0, "HOME (a PLACE), REACH (0 .. 7):");
        for (int places = 3; places <= 8; places++) {
            SixHands x = new SixHands(places);
            Due.is("home behind the last of " + places, -1, x.puppeteer(places, 0));
            Due.is("home ahead of the first", -1, x.puppeteer(-1, 0));
            Due.is("home at the first, the least reach", 0, x.puppeteer(0, 0));
            Due.is("home at the last, the widest reach", 1, x.puppeteer(places - 1, 7));
        }
        SixHands wide = new SixHands(8);
        wide.puppeteer(0, 7);
        wide.puppeteer(0, 6);
        Booths.stand(wide, 7);
        Due.is("reach 7 is over all places", 0, wide.fewest(1));
        Due.is("reach 6 isn't", -1, wide.fewest(2));
    }

    private static void handsByNumber() {
        Due.says(0, "HANDS 2 p (left), 2 p + 1 (right) of p.");
        for (int hand = 0; hand < 6; hand++) {
            SixHands x = Booths.glove(2, 1, 3);
            x.hold(0, 0, 1 << hand);
            Due.rule(x, "may who=" + hand / 2 + " and right=" + hand % 2 + ";");
            Due.is("hand " + hand, 0, x.judge(1));
            Due.is("found", 1 << hand, x.found(7, 0, 0));
        }
    }

    private static void handsInOrder() {
        Due.says(0, "HANDS in order: by HOME, of one HOME by number.");
        order(new int[] {5, 3, 0}, 4, 5, 2, 3, 0, 1);
        order(new int[] {0, 7, 3}, 0, 1, 4, 5, 2, 3);
        order(new int[] {4, 4, 4}, 0, 1, 2, 3, 4, 5);
        order(new int[] {4, 2, 4}, 2, 3, 0, 1, 4, 5);
        order(new int[] {4, 4, 2}, 2, 3, 4, 5, 0, 1);
        order(new int[] {1, 0}, 2, 3, 0, 1);
        order(new int[] {7}, 0, 1);
    }

    private static void order(int[] homes, int... places) {
        SixHands x = new SixHands(8);
        for (int home : homes) {
            x.puppeteer(home, 0);
        }
        for (int hand = 0; hand < places.length; hand++) {
            Due.is("hand " + hand + " of homes " + java.util.Arrays.toString(homes), places[hand], x.about(20 + hand));
        }
    }

    private static void figuresByNumber() {
        Due.says(0, "FIGURES 0 .. 5 (told one by one):");
        SixHands x = new SixHands(3);
        x.rules(6, 0);
        for (int told = 0; told <= 6; told++) {
            Due.is("told", told, x.about(2));
            Due.is("one that isn't told", -2, x.at(-1, told));
            Due.is("numbered as told", told < 6 ? told : -1, x.figure(0, 1));
        }
        Due.is("the sixth enters", -1, Due.play(x, "enter 5 at 2;beat;"));
        Due.is("where it is", 2, x.at(0, 5));
        Due.is("it is seen", 32, x.sees(0, 0));
    }

    private static void kindsAndWeights() {
        Due.says(0, "KIND 0 glove, 1 rod, 2 two rods; WEIGHT (1 .. 99) of a line.");
        for (int kind = 0; kind <= 2; kind++) {
            SixHands x = new SixHands(3);
            x.puppeteer(1, 1);
            x.rules(2, 0);
            Due.is("the least weight", 0, x.figure(kind, 1));
            Due.play(x, "enter 0 at 1;beat;");
            Due.is("kind " + kind + " by one hand or by two", kind == 2 ? 3 : 1, x.found(1, 0, 0));
            Due.is("the most", 1, x.figure(kind, 99));
            Due.play(x, "enter 1 at 1;beat;");
            Due.is("both by one puppeteer", kind == 2 ? -1 : 0, x.fewest(1));
            Due.is("what their two lines weigh", 100, x.strike(0, 1));
        }
    }

    private static void hooksAtFirst() {
        Due.says(0, "HOOKS (0 .. 6; at first 0).");
        SixHands x = new SixHands(3);
        Due.is("at first", 0, x.about(3));
        for (int i = 0; i < 6; i++) {
            x.figure(0, 1);
        }
        Due.play(x, "beat;");
        Due.is("six off, no hook", 6, x.judge(1));
        for (int hooks = 0; hooks <= 6; hooks++) {
            Due.yes("hooks", x.rules(hooks, 0));
            Due.is(hooks + " hooks for six", hooks < 6 ? 6 : 0, x.judge(1));
        }
    }

    private static void limitAtFirst() {
        Due.says(0, "LIMIT (0 .. 24; at first 0: none).");
        SixHands x = Booths.glove(3, 24, 1);
        Due.is("at first", 0, x.about(4));
        x.take(1);
        Due.is("24 beats without a limit", -1, x.judge(0));
        for (int limit = 1; limit <= 24; limit++) {
            Due.yes("limit", x.rules(0, limit));
            Due.is("limit " + limit, limit < 24 ? limit : -1, x.judge(0));
        }
        Due.yes("none again", x.rules(0, 0));
        Due.is("24 beats", -1, x.judge(0));
    }

    /** Promise 1. */
    private static void nearestPlaces() {
        Due.says(1, "P PLACES (3 to 8; others: the nearest of these);");
        int[][] cases = {{Integer.MIN_VALUE, 3}, {-8, 3}, {-1, 3}, {0, 3}, {1, 3}, {2, 3}, {3, 3}, {4, 4}, {5, 5}, {6, 6}, {7, 7}, {8, 8},
            {9, 8}, {10, 8}, {256 + 4, 8}, {Integer.MAX_VALUE, 8}};
        for (int[] c : cases) {
            SixHands x = new SixHands(c[0]);
            Due.is("P of " + c[0], c[1], x.about(0));
            Due.is("a home too far", -1, x.puppeteer(c[1], 0));
            Due.is("the last home", 0, x.puppeteer(c[1] - 1, 0));
            Due.play(x, "beat;");
            Due.is("the last seat", 0, x.sees(0, c[1] - 1));
            Due.is("a seat too far", -1, x.sees(0, c[1]));
        }
    }

    private static void firstImage() {
        Due.says(1, "THE IMAGE is this.");
        for (int places : new int[] {-1, 3, 6, 8, 9}) {
            Due.is("back at once", 0, new SixHands(places).back());
            SixHands x = new SixHands(places);
            x.puppeteer(1, 1);
            x.figure(1, 1);
            x.rules(5, 5);
            Due.play(x, "enter 0 at 1;beat;");
            x.by(0);
            x.hold(0, 0, 1);
            Due.is("back to no beats", 0, x.back());
            Due.same("as a new one", Portrait.of(new SixHands(places)), Portrait.of(x));
            Due.is("the first puppeteer again", 0, x.puppeteer(0, 0));
            Due.is("the first figure again", 0, x.figure(0, 1));
            Due.is("the first text again", 0, Due.read(x, "beat;"));
            Due.is("by itself", -1, x.played(0));
            Due.is("a beat", 1, x.about(7));
            Due.is("off", -1, x.at(0, 0));
            Due.is("held by none", 0, x.held(0, 0));
        }
    }

    /** Promise 2. */
    private static void whoIsTold() {
        Due.says(2, "A PUPPETEER: who.");
        SixHands x = new SixHands(8);
        Due.is("the least of both", 0, x.puppeteer(0, 0));
        Due.is("the most of both", 1, x.puppeteer(7, 7));
        Due.is("as one ahead", 2, x.puppeteer(0, 0));
        Booths.stand(x, 0);
        Due.is("by the first", 1, x.found(1, 0, 0));
        Due.is("by the second", 4, x.found(2, 0, 0));
        Due.is("by the third", 16, x.found(4, 0, 0));
    }

    private static void puppeteersRefused() {
        Due.says(2, "NONE for others, or if there are 3.");
        int[][] others = {{-1, 0}, {5, 0}, {6, 0}, {8, 1}, {0, -1}, {0, 8}, {4, 9}, {5, 8}, {-1, -1}};
        Portrait.stays("others", Booths::ripe, x -> {
            for (int[] o : others) {
                Due.is("puppeteer " + o[0] + " " + o[1], -1, x.puppeteer(o[0], o[1]));
            }
            for (int far : Booths.FAR) {
                Due.is("home " + far, -1, x.puppeteer(far, 1));
                Due.is("reach " + far, -1, x.puppeteer(1, far));
            }
        });
        Portrait.stays("there are 3", Booths::full, x -> {
            Due.is("a fourth", -1, x.puppeteer(0, 0));
            Due.is("a fourth", -1, x.puppeteer(7, 7));
        });
        Due.is("the third behind refused ones", 2, Booths.ripe().puppeteer(4, 7));
    }

    /** Promise 3. */
    private static void figureIsOff() {
        Due.says(3, "A FIGURE (off in all BEATS that there are): its number.");
        SixHands x = Booths.glove(3, 24, 1);
        x.take(1);
        for (int figure = 1; figure < 6; figure++) {
            Due.is("its number", figure, x.figure(figure % 3, 99));
            Due.is("off as it stands", -1, x.at(-1, figure));
            Due.is("without lines", 0, x.about(10 + figure));
            for (int beat = 0; beat < 24; beat++) {
                Due.is("off in beat " + beat, -1, x.at(beat, figure));
                Due.is("held by none", 0, x.held(beat, figure));
            }
        }
        Due.is("the first is where it was", 3, x.at(23, 0));
        Due.is("the first is held", 1, x.held(23, 0));
        Due.is("without beats", 0, new SixHands(3).figure(0, 1));
    }

    private static void figuresRefused() {
        Due.says(3, "NONE for others, or if there are 6.");
        int[][] others = {{-1, 1}, {3, 1}, {4, 1}, {0, 0}, {0, -1}, {0, 100}, {2, 101}, {3, 100}, {-1, 0}};
        Portrait.stays("others", Booths::ripe, x -> {
            for (int[] o : others) {
                Due.is("figure " + o[0] + " " + o[1], -1, x.figure(o[0], o[1]));
            }
            for (int far : Booths.FAR) {
                Due.is("kind " + far, -1, x.figure(far, 1));
                if (far != 64) {
                    Due.is("weight " + far, -1, x.figure(1, far));
                }
            }
        });
        Portrait.stays("there are 6", Booths::full, x -> {
            Due.is("a seventh", -1, x.figure(0, 1));
            Due.is("a seventh", -1, x.figure(2, 99));
        });
    }

    /** Promise 4. */
    private static void rulesTaken() {
        Due.says(4, "HOOKS and LIMIT: true.");
        int[][] edges = {{0, 0}, {6, 24}, {0, 24}, {6, 0}, {1, 1}, {5, 23}};
        SixHands x = new SixHands(3);
        for (int[] e : edges) {
            Due.yes("rules " + e[0] + " " + e[1], x.rules(e[0], e[1]));
            Due.is("hooks", e[0], x.about(3));
            Due.is("limit", e[1], x.about(4));
        }
    }

    private static void rulesRefused() {
        Due.says(4, "False for others.");
        int[][] others = {{-1, 1}, {7, 1}, {1, -1}, {1, 25}, {7, 25}, {-1, -1}, {8, 0}, {0, 26}};
        Portrait.stays("others", Booths::ripe, x -> {
            for (int[] o : others) {
                Due.no("rules " + o[0] + " " + o[1], x.rules(o[0], o[1]));
            }
            for (int far : Booths.FAR) {
                Due.no("hooks " + far, x.rules(far, 1));
                Due.no("limit " + far, x.rules(1, far));
            }
        });
    }

    private static void imageOfAll() {
        Due.says(0, "BACK: all is so again.");
        SixHands x = Booths.ripe();
        String before = Portrait.of(x);
        x.image();
        x.puppeteer(0, 7);
        x.figure(0, 1);
        x.rules(0, 0);
        x.end(0);
        Due.is("one more text", 2, Due.read(x, "exit 0;beat;"));
        x.played(2);
        x.by(2);
        x.hold(0, 0, 1);
        Due.put(x, "beat;enter 2 at 2;");
        Due.no("another one meanwhile", before.equals(Portrait.of(x)));
        x.back();
        Due.same("all but the tape", before, Portrait.of(x));
        SixHands cleared = Booths.ripe();
        cleared.image();
        cleared.clear();
        cleared.back();
        Due.same("behind clear", before, Portrait.of(cleared));
        SixHands full = Booths.full();
        full.by(-1);
        String whole = Portrait.of(full);
        full.image();
        full.clear();
        full.rules(0, 0);
        full.back();
        Due.same("a full one", whole, Portrait.of(full));
    }

    private static void imageWithoutTheTape() {
        Due.says(0, "AN IMAGE: all as it is, but the tape and the latest FAULT.");
        SixHands x = new SixHands(4);
        x.feed(0x62656174, 0x3B626561, 0x743B0000, 0, 0);
        x.image();
        x.end(10);
        Due.is("the tape stays as cut", 0, x.back());
        Due.is("bytes of the tape", 10, x.about(8));
        Due.is("fault ahead of any", -1, x.fault(0));
        Due.is("the bytes are those", 0, x.text());
        Due.is("latest fault", 0, x.fault(0));
        x.back();
        Due.is("no text any more", 0, x.about(5));
        Due.is("but one was read", 0, x.fault(0));
        Due.is("the tape stays empty", 0, x.about(8));
        Due.read(x, "beat;beat");
        x.back();
        Due.is("the fault stays", 1, x.fault(0));
        Due.is("its place stays", 9, x.fault(1));
    }

    /** Promise 26. */
    private static void imageAnswers() {
        Due.says(26, "THE IMAGE is as all is now: how many BEATS there are.");
        SixHands x = new SixHands(3);
        Due.is("of none", 0, x.image());
        Due.is("of 24", -1, Due.play(x, "beat;".repeat(24)));
        Due.is("of 24", 24, x.image());
        Due.is("cleared", 24, x.clear());
        Due.is("the image is the older one", 24, x.back());
        x.clear();
        Due.is("of none again", 0, x.image());
        Due.is("the latest image alone", 0, x.back());
        Due.is("it is no change", 0, x.about(7));
        Due.is("texts are in it", 1, x.about(5));
    }

    /** Promise 27. */
    private static void backAgain() {
        Due.says(27, "BACK to THE IMAGE (it stays): how many BEATS there are.");
        SixHands x = Booths.ripe();
        int beats = x.about(7);
        Due.is("image", beats, x.image());
        String before = Portrait.of(x);
        for (int time = 0; time < 3; time++) {
            x.clear();
            Due.is("back once more", beats, x.back());
        }
        Due.is("back twice in a row", beats, x.back());
        Due.same("as it was", before, Portrait.of(x));
        SixHands told = new SixHands(3);
        told.image();
        told.figure(0, 1);
        Due.play(told, "enter 0 at 1;beat;beat;");
        told.back();
        Due.play(told, "beat;beat;beat;");
        told.figure(1, 1);
        Due.is("a new figure is off in beat 1", -1, told.at(1, 0));
        Due.is("and held by none", 0, told.held(1, 0));
        Due.is("and without lines", 0, told.about(10));
    }

    /** Promise 28. */
    private static void aboutEach() {
        Due.says(28, "0 P, 1 PUPPETEERS, 2 FIGURES, 3 HOOKS, 4 LIMIT, 5 TEXTS, 6 THE TEXT (NONE), 7 BEATS, 8 bytes of the tape,");
        int[] atFirst = {8, 0, 0, 0, 0, 0, -1, 0, 0};
        int[] full = {8, 3, 6, 6, 24, 4, 1, 2, 300};
        SixHands x = Booths.full();
        for (int what = 0; what <= 8; what++) {
            Due.is("about(" + what + ") of a new one", atFirst[what], new SixHands(8).about(what));
            Due.is("about(" + what + ") of a full one", full[what], x.about(what));
        }
    }

    private static void aboutLines() {
        Due.says(28, "10 + figure: its lines,");
        SixHands x = new SixHands(3);
        for (int figure = 0; figure < 6; figure++) {
            Due.is("one that isn't told", -2, x.about(10 + figure));
            x.figure(0, 1);
            Due.is("one that is told", 0, x.about(10 + figure));
        }
        Due.is("a seventh", -2, x.about(16));
        Due.play(x, "enter 5 at 1;");
        Due.is("lines of the last", 1, x.about(15));
        Due.is("lines of the one ahead", 0, x.about(14));
    }

    private static void aboutOrder() {
        Due.says(28, "20 + hand: its place in the order of HANDS.");
        SixHands x = new SixHands(3);
        for (int who = 0; who < 3; who++) {
            Due.is("a left hand that isn't there", -2, x.about(20 + 2 * who));
            Due.is("a right hand that isn't there", -2, x.about(21 + 2 * who));
            x.puppeteer(2 - who, 0);
            Due.is("the left one of the first", 2 * who, x.about(20));
            Due.is("the right one of the first", 2 * who + 1, x.about(21));
            Due.is("the left one of the latest", 0, x.about(20 + 2 * who));
        }
        Due.is("a seventh", -2, x.about(26));
    }

    private static void aboutRefused() {
        Due.says(28, "-2 for others.");
        SixHands x = Booths.full();
        for (int what : new int[] {-1, -2, 9, 16, 17, 18, 19, 26, 27, 30, 100}) {
            Due.is("about(" + what + ")", -2, x.about(what));
        }
        for (int far : Booths.FAR) {
            Due.is("about(" + far + ")", -2, x.about(far));
        }
        SixHands empty = new SixHands(8);
        for (int what = 9; what < 40; what++) {
            Due.is("about(" + what + ") of a new one", -2, empty.about(what));
        }
    }
}
