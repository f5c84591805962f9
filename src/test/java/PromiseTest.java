/** Each promise of the document by itself: ordinary inputs, edges and wrong inputs. */
public final class PromiseTest {
    private PromiseTest() { }

    public static void main(String[] args) {
        newObject();
        puppeteer();
        figure();
        rules();
        feed();
        end();
        text();
        by();
        played();
        playedThatCantBe();
        clear();
        at();
        holdAndHeld();
        imageAndBack();
        back();
        takeBehindBack();
        about();
        order();
        Due.close();
    }

    /** Promise 1. */
    private static void newObject() {
        int[][] cases = {{Integer.MIN_VALUE, 3}, {-1, 3}, {2, 3}, {3, 3}, {5, 5}, {8, 8}, {9, 8}, {Integer.MAX_VALUE, 8}};
        for (int[] c : cases) {
            Due.is("places of " + c[0], c[1], new SixHands(c[0]).about(0));
        }
        SixHands x = new SixHands(4);
        for (int what = 1; what <= 8; what++) {
            Due.is("about(" + what + ") of a new one", what == 6 ? -1 : 0, x.about(what));
        }
        x.puppeteer(0, 1);
        x.figure(0, 1);
        x.rules(3, 3);
        Due.play(x, "beat;");
        x.by(0);
        Due.is("back to the new one", 0, x.back());
        for (int what = 1; what <= 8; what++) {
            Due.is("about(" + what + ") behind back", what == 6 ? -1 : 0, x.about(what));
        }
        Due.is("NONE", -1, SixHands.NONE);
    }

    /** Promise 2. */
    private static void puppeteer() {
        SixHands x = new SixHands(5);
        Due.is("home below", -1, x.puppeteer(-1, 1));
        Due.is("home above", -1, x.puppeteer(5, 1));
        Due.is("reach below", -1, x.puppeteer(0, -1));
        Due.is("reach above", -1, x.puppeteer(0, 8));
        Due.is("none yet", 0, x.about(1));
        Due.is("first", 0, x.puppeteer(0, 0));
        Due.is("second", 1, x.puppeteer(4, 7));
        Due.is("wrong between", -1, x.puppeteer(4, 9));
        Due.is("third", 2, x.puppeteer(4, 7));
        Due.is("fourth", -1, x.puppeteer(1, 1));
        Due.is("three", 3, x.about(1));
    }

    /** Promise 3. */
    private static void figure() {
        SixHands x = new SixHands(5);
        Due.play(x, "beat;beat;");
        Due.is("kind below", -1, x.figure(-1, 1));
        Due.is("kind above", -1, x.figure(3, 1));
        Due.is("weight below", -1, x.figure(0, 0));
        Due.is("weight above", -1, x.figure(0, 100));
        for (int i = 0; i < 6; i++) {
            Due.is("figure " + i, i, x.figure(i % 3, i == 0 ? 1 : 99));
            Due.is("off in beat 0", -1, x.at(0, i));
            Due.is("off in beat 1", -1, x.at(1, i));
            Due.is("off now", -1, x.at(-1, i));
            Due.is("lines", 0, x.about(10 + i));
            Due.is("held", 0, x.held(1, i));
        }
        Due.is("seventh", -1, x.figure(0, 1));
        Due.is("six", 6, x.about(2));
    }

    /** Promise 4. */
    private static void rules() {
        SixHands x = new SixHands(5);
        Due.yes("rules(6, 24)", x.rules(6, 24));
        Due.no("rules(-1, 0)", x.rules(-1, 0));
        Due.no("rules(7, 0)", x.rules(7, 0));
        Due.no("rules(0, -1)", x.rules(0, -1));
        Due.no("rules(0, 25)", x.rules(0, 25));
        Due.is("hooks stay", 6, x.about(3));
        Due.is("limit stays", 24, x.about(4));
        Due.yes("rules(0, 0)", x.rules(0, 0));
        Due.is("hooks", 0, x.about(3));
        Due.is("limit", 0, x.about(4));
    }

    /** Promise 5. */
    private static void feed() {
        SixHands x = new SixHands(5);
        int[] w = Due.words("beat;beat;beat;beat;").get(0);
        for (int i = 1; i <= 15; i++) {
            Due.is("feed " + i, 20 * i, x.feed(w[0], w[1], w[2], w[3], w[4]));
        }
        Due.is("feed 16", -1, x.feed(w[0], w[1], w[2], w[3], w[4]));
        Due.is("tape", 300, x.about(8));
        x.end(281);
        Due.is("feed of a byte too many", -1, x.feed(w[0], w[1], w[2], w[3], w[4]));
        Due.is("none came", 281, x.about(8));
        x.end(20);
        Due.is("text", 0, x.text());
        Due.is("played", -1, x.played(0));
        Due.is("beats as fed", 4, x.about(7));
        // Highest bit set: a byte is never below 0.
        x.feed(w[0], 0xFF000000, 0, 0, 0);
        Due.is("no text", -1, x.text());
        Due.is("place of the strange byte", 4, x.fault(1));
    }

    /** Promise 6. */
    private static void end() {
        SixHands x = new SixHands(5);
        Due.is("end(0) of an empty tape", 0, x.end(0));
        Due.is("end(1) of an empty tape", -1, x.end(1));
        Due.put(x, "beat;beat;");
        Due.is("tape", 10, x.about(8));
        Due.is("end(-1)", -1, x.end(-1));
        Due.is("end(11)", -1, x.end(11));
        Due.is("tape stays", 10, x.about(8));
        Due.is("end(10)", 10, x.end(10));
        Due.is("end(5)", 5, x.end(5));
        Due.is("text", 0, x.text());
        x.played(0);
        Due.is("the first five bytes alone", 1, x.about(7));
    }

    /** Promises 7 and 8 (TextTest has more). */
    private static void text() {
        SixHands x = new SixHands(5);
        Due.is("fault ahead of any", -1, x.fault(0));
        Due.is("first", 0, Due.read(x, "beat;"));
        Due.is("fault", 0, x.fault(0));
        Due.is("place", -1, x.fault(1));
        Due.is("bad", -1, Due.read(x, "beat;beat"));
        Due.is("fault", 1, x.fault(0));
        Due.is("place", 9, x.fault(1));
        Due.is("fault(2)", -1, x.fault(2));
        Due.is("empty tape", 0, x.about(8));
    }

    /** Promise 9. */
    private static void by() {
        SixHands x = new SixHands(3);
        Due.no("by(0) without texts", x.by(0));
        Due.yes("by(NONE)", x.by(-1));
        Due.read(x, "shows 1=2;");
        Due.read(x, "shows seat=0;");
        x.figure(0, 1);
        Due.play(x, "enter 0 at 1;beat;");
        Due.is("without a text all is seen", 1, x.sees(0, 1));
        Due.yes("by(0)", x.by(0));
        Due.is("THE TEXT", 0, x.about(6));
        Due.is("nothing is seen", 0, x.sees(0, 0));
        Due.yes("by(1)", x.by(1));
        Due.is("seen from seat 0", 1, x.sees(0, 0));
        Due.no("by(3)", x.by(3));
        Due.no("by(-2)", x.by(-2));
        Due.is("THE TEXT stays", 1, x.about(6));
        Due.yes("by(2)", x.by(2));
        Due.is("a text without shows", 1, x.sees(0, 1));
        Due.yes("by(NONE)", x.by(-1));
        Due.is("THE TEXT is none", -1, x.about(6));
        Due.is("all is seen again", 1, x.sees(0, 1));
    }

    /** Promise 10. */
    private static void played() {
        SixHands x = new SixHands(5);
        Due.is("played(0) without texts", -2, x.played(0));
        Due.is("played(-1)", -2, x.played(-1));
        x.figure(0, 1);
        x.figure(1, 1);
        Due.is("an empty text", -1, Due.play(x, ""));
        Due.is("all is done", -1, Due.play(x, "may 1=2;enter 0 at 4;beat;go 0 to 4;pass 1=2;go 0 to 3;enter 1 at 2;hit 0,1;beat;"));
        Due.is("beats", 2, x.about(7));
        Due.is("at(0, 0)", 4, x.at(0, 0));
        Due.is("at(0, 1)", -1, x.at(0, 1));
        Due.is("at(1, 0)", 3, x.at(1, 0));
        Due.is("at(1, 1)", 2, x.at(1, 1));
        Due.is("lines of 0", 4, x.about(10));
        Due.is("lines of 1", 2, x.about(11));
        Due.is("it goes on as it stands", -1, Due.play(x, "exit 0;beat;"));
        Due.is("beats", 3, x.about(7));
        Due.is("at(2, 0)", -1, x.at(2, 0));
        Due.is("at(2, 1)", 2, x.at(2, 1));
        Due.is("lines of 0", 5, x.about(10));
        Due.is("played(3)", -2, x.played(3));
    }

    private static void cant(int clause, String text) {
        SixHands x = new SixHands(5);
        x.figure(0, 1);
        x.figure(1, 1);
        Due.is("played " + text, clause, Due.play(x, text));
    }

    private static void playedThatCantBe() {
        cant(0, "exit 0;");
        cant(0, "go 0 to 1;");
        cant(0, "enter 2 at 1;");
        cant(0, "enter 0 at 5;");
        cant(1, "enter 0 at 1;enter 0 at 1;");
        cant(1, "enter 0 at 1;go 0 to 5;");
        cant(1, "enter 0 at 1;hit 0,0;");
        cant(1, "enter 0 at 1;hit 0,1;");
        cant(1, "enter 0 at 1;hit 1,0;");
        cant(1, "enter 0 at 1;hit 0,2;");
        cant(2, "enter 0 at 1;enter 1 at 3;hit 0,1;");
        cant(-1, "enter 0 at 1;enter 1 at 2;hit 0,1;hit 1,0;");
        cant(-1, "enter 0 at 1;enter 1 at 1;hit 0,1;");
        cant(-1, "enter 0 at 2;enter 1 at 1;hit 0,1;");
        cant(2, "enter 0 at 1;exit 0;exit 0;");
        cant(-1, "enter 0 at 1;exit 0;enter 0 at 4;");
        cant(5, "may 1=1;beat;pass 1=1;beat;shows 1=1;exit 1;beat;");
        cant(24, "beat;".repeat(25));
        cant(-1, "beat;".repeat(24));
        SixHands x = new SixHands(5);
        x.figure(0, 1);
        Due.is("a 25th beat", 24, Due.play(x, "beat;".repeat(26)));
        Due.is("what was done stays", 24, x.about(7));
        Due.is("one more", 1, Due.play(x, "enter 0 at 1;beat;exit 0;"));
        Due.is("on, by the clause ahead", 1, x.at(-1, 0));
        Due.is("one line", 1, x.about(10));
        Due.is("no clause behind", 24, x.about(7));
        Due.is("one that can't be is no line", 0, Due.play(x, "enter 0 at 1;"));
        Due.is("still one line", 1, x.about(10));
    }

    /** Promise 11. */
    private static void clear() {
        SixHands x = new SixHands(5);
        Due.is("clear of nothing", 0, x.clear());
        x.puppeteer(1, 7);
        x.figure(0, 1);
        Due.play(x, "enter 0 at 1;beat;beat;");
        x.hold(1, 0, 1);
        Due.is("clear", 2, x.clear());
        Due.is("beats", 0, x.about(7));
        Due.is("lines", 0, x.about(10));
        Due.is("off", -1, x.at(-1, 0));
        Due.is("no beat", -2, x.at(0, 0));
        Due.is("no plan", -1, x.held(0, 0));
        Due.is("longest", 0, x.longest(0));
        Due.is("again", -1, x.played(0));
        Due.is("the plan is empty", 0, x.held(1, 0));
        Due.is("puppeteers stay", 1, x.about(1));
        Due.is("figures stay", 1, x.about(2));
        Due.is("texts stay", 1, x.about(5));
    }

    /** Promise 12. */
    private static void at() {
        SixHands x = new SixHands(8);
        Due.is("at without figures", -2, x.at(-1, 0));
        x.figure(0, 1);
        x.figure(1, 1);
        Due.play(x, "enter 0 at 7;beat;go 0 to 0;");
        Due.is("at(0, 0)", 7, x.at(0, 0));
        Due.is("at(NONE, 0)", 0, x.at(-1, 0));
        Due.is("at(0, 1)", -1, x.at(0, 1));
        Due.is("at(NONE, 1)", -1, x.at(-1, 1));
        Due.is("at(1, 0)", -2, x.at(1, 0));
        Due.is("at(-2, 0)", -2, x.at(-2, 0));
        Due.is("at(0, 2)", -2, x.at(0, 2));
        Due.is("at(0, -1)", -2, x.at(0, -1));
        Due.is("at(NONE, 2)", -2, x.at(-1, 2));
    }

    /** Promises 13 and 14. */
    private static void holdAndHeld() {
        SixHands x = new SixHands(5);
        x.puppeteer(0, 0);
        x.figure(0, 1);
        Due.no("hold without beats", x.hold(0, 0, 0));
        Due.is("held without beats", -1, x.held(0, 0));
        Due.play(x, "beat;beat;");
        Due.is("at first none", 0, x.held(1, 0));
        Due.yes("both hands", x.hold(1, 0, 3));
        Due.is("held", 3, x.held(1, 0));
        Due.is("of that beat alone", 0, x.held(0, 0));
        Due.no("a hand that isn't there", x.hold(1, 0, 4));
        Due.no("a hand more", x.hold(1, 0, 5));
        Due.no("below 0", x.hold(1, 0, -1));
        Due.no("above 63", x.hold(1, 0, 64));
        Due.no("no beat", x.hold(2, 0, 1));
        Due.no("beat -1", x.hold(-1, 0, 1));
        Due.no("no figure", x.hold(1, 1, 1));
        Due.no("figure -1", x.hold(1, -1, 1));
        Due.is("it stays", 3, x.held(1, 0));
        Due.yes("no hand", x.hold(1, 0, 0));
        Due.is("held", 0, x.held(1, 0));
        Due.is("held(2, 0)", -1, x.held(2, 0));
        Due.is("held(-1, 0)", -1, x.held(-1, 0));
        Due.is("held(0, 1)", -1, x.held(0, 1));
        Due.is("held(0, -1)", -1, x.held(0, -1));
        x.puppeteer(0, 0);
        x.puppeteer(0, 0);
        Due.yes("all hands", x.hold(1, 0, 63));
        Due.no("more than all", x.hold(1, 0, 64));
        Due.is("held by all", 63, x.held(1, 0));
    }

    /** Promises 26 and 27. */
    private static void imageAndBack() {
        SixHands x = new SixHands(5);
        x.puppeteer(1, 7);
        x.figure(2, 9);
        x.rules(2, 3);
        Due.play(x, "enter 0 at 1;beat;go 0 to 3;");
        Due.rule(x, "shows seat>2;");
        x.hold(0, 0, 3);
        Due.is("image", 1, x.image());
        x.puppeteer(2, 7);
        x.figure(0, 1);
        x.rules(6, 6);
        Due.play(x, "exit 0;beat;beat;");
        x.by(2);
        x.hold(0, 0, 1);
        Due.put(x, "beat;b");
        Due.is("back", 1, x.back());
        Due.is("puppeteers", 1, x.about(1));
        Due.is("figures", 1, x.about(2));
        Due.is("hooks", 2, x.about(3));
        Due.is("limit", 3, x.about(4));
        Due.is("texts", 2, x.about(5));
        Due.is("THE TEXT", 1, x.about(6));
        Due.is("beats", 1, x.about(7));
        Due.is("the tape is as it was ahead of back", 6, x.about(8));
        Due.is("lines", 2, x.about(10));
        Due.is("the play", 1, x.at(0, 0));
        Due.is("as it stands", 3, x.at(-1, 0));
        Due.is("the plan", 3, x.held(0, 0));
        Due.is("the laws", 0, x.sees(0, 2));
        Due.is("the laws", 1, x.sees(0, 3));
        Due.is("judged", -1, x.judge(0));
    }

    private static void back() {
        SixHands x = new SixHands(5);
        x.figure(0, 1);
        Due.play(x, "beat;");
        x.image();
        Due.is("a bad text", -1, Due.read(x, "may"));
        x.back();
        Due.is("the latest fault isn't in the image", 1, x.fault(0));
        Due.is("nor its place", 3, x.fault(1));
        Due.is("a text behind the image", 1, Due.read(x, "beat;beat;"));
        x.played(1);
        Due.is("beats", 3, x.about(7));
        Due.is("back", 1, x.back());
        Due.is("no such text", -2, x.played(1));
        Due.is("another in its place", 1, Due.read(x, "enter 0 at 0;beat;beat;beat;"));
        Due.is("played", -1, x.played(1));
        Due.is("beats", 4, x.about(7));
        Due.is("the image stays", 1, x.back());
        Due.is("a figure is off again", -1, x.at(-1, 0));
        Due.is("the first text is as it was", -1, x.played(0));
        Due.is("a new image", 2, x.image());
        x.clear();
        Due.is("back to it", 2, x.back());
        x.rules(4, 0);
        Due.is("back twice", 2, x.back());
        Due.is("hooks", 0, x.about(3));
    }

    /** Promises 27, 20 and 3: what was found ahead of back holds no figure that is told behind it. */
    private static void takeBehindBack() {
        for (int set = 1; set < 8; set++) {
            SixHands x = new SixHands(5);
            for (int i = 0; i < 3; i++) {
                x.puppeteer(2, 7);
            }
            x.figure(0, 1);
            x.image();
            x.figure(1, 1);
            x.figure(0, 1);
            x.rules(6, 0);
            boolean alone = Integer.bitCount(set) == 1;
            String others = alone ? "enter 2 at 2;" : "enter 1 at 2;enter 2 at 2;";
            Due.play(x, "enter 0 at 2;" + others + "beat;beat;beat;");
            Due.is("taken by " + set, 0, x.take(set));
            Due.yes("2 is held", x.held(2, 2) > 0);
            Due.is("back", 0, x.back());
            Due.play(x, "enter 0 at 1;beat;beat;");
            Due.is("taken by " + set, 0, x.take(set));
            Due.is("a figure", 1, x.figure(0, 1));
            Due.is("one more", 2, x.figure(2, 1));
            Due.play(x, "beat;");
            for (int beat = 0; beat < 3; beat++) {
                Due.is("0 is held", beat < 2 ? 1 << 2 * Integer.numberOfTrailingZeros(set) : 0, x.held(beat, 0));
                for (int figure = 1; figure < 3; figure++) {
                    Due.is("off", -1, x.at(beat, figure));
                    Due.is("held by none", 0, x.held(beat, figure));
                }
            }
            x.rules(6, 0);
            Due.is("the first that can't be", 2, x.judge(0));
            Due.is("only 0's hand", 2, x.longest(2 * Integer.numberOfTrailingZeros(set)));
        }
    }

    /** Promise 28. */
    private static void about() {
        SixHands x = new SixHands(6);
        x.puppeteer(0, 1);
        x.puppeteer(0, 1);
        x.figure(0, 1);
        x.rules(5, 7);
        Due.play(x, "enter 0 at 1;go 0 to 2;beat;");
        Due.rule(x, "may 1=1;");
        x.feed(0, 0, 0, 0, 0);
        int[][] due = {{-1, -2}, {0, 6}, {1, 2}, {2, 1}, {3, 5}, {4, 7}, {5, 2}, {6, 1}, {7, 1}, {8, 20}, {9, -2}, {10, 2},
            {11, -2}, {15, -2}, {16, -2}, {19, -2}, {20, 0}, {21, 1}, {22, 2}, {23, 3}, {24, -2}, {25, -2}, {26, -2},
            {Integer.MIN_VALUE, -2}, {Integer.MAX_VALUE, -2}};
        for (int[] d : due) {
            Due.is("about(" + d[0] + ")", d[1], x.about(d[0]));
        }
    }

    private static void order() {
        SixHands x = new SixHands(6);
        x.puppeteer(4, 1);
        x.puppeteer(2, 1);
        x.puppeteer(4, 1);
        int[] places = {2, 3, 0, 1, 4, 5};
        for (int hand = 0; hand < 6; hand++) {
            Due.is("place of hand " + hand, places[hand], x.about(20 + hand));
        }
        SixHands y = new SixHands(6);
        y.puppeteer(5, 1);
        y.puppeteer(3, 1);
        y.puppeteer(0, 1);
        for (int hand = 0; hand < 6; hand++) {
            Due.is("place of hand " + hand, new int[] {4, 5, 2, 3, 0, 1}[hand], y.about(20 + hand));
        }
    }
}
