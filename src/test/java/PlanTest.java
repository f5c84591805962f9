/** Promises 15 to 25: plans judged, and what is sought. */
public final class PlanTest {
    private PlanTest() { }

    public static void main(String[] args) {
        heldAsWanted();
        reachAndOrder();
        mayAndHooks();
        passes();
        limits();
        firstBeatAndLeastReason();
        swapsOfThePlan();
        longest();
        fewestAndFound();
        lawsOfTheSearch();
        crossingInTheSearch();
        hooksOfTheSearch();
        take();
        least();
        strike();
        ill();
        illBehindOddHolds();
        bound();
        sees();
        askedAgain();
        Due.close();
    }

    private static void judged(String what, SixHands x, int beat, int why) {
        Due.is("judge(0) of " + what, beat, x.judge(0));
        Due.is("judge(1) of " + what, why, x.judge(1));
    }

    private static void because(String what, SixHands x, int figure, int hands, int why) {
        int before = x.held(0, figure);
        Due.yes("hold of " + what, x.hold(0, figure, hands));
        judged(what, x, why == 0 ? -1 : 0, why);
        x.hold(0, figure, before);
    }

    /** A glove at 1, two rods at 3, a rod that is off; three puppeteers; held as it can be. */
    private static SixHands three() {
        SixHands x = new SixHands(5);
        x.puppeteer(1, 1);
        x.puppeteer(3, 1);
        x.puppeteer(4, 1);
        x.figure(0, 1);
        x.figure(2, 1);
        x.figure(1, 1);
        x.rules(6, 0);
        Due.play(x, "enter 0 at 1;enter 1 at 3;beat;");
        x.hold(0, 0, 1);
        x.hold(0, 1, 12);
        return x;
    }

    private static void heldAsWanted() {
        SixHands empty = new SixHands(5);
        judged("no beats", empty, -1, 0);
        Due.is("judge(2)", -1, empty.judge(2));
        Due.is("judge(-1)", -1, empty.judge(-1));
        SixHands x = three();
        judged("all as wanted", x, -1, 0);
        because("a glove by its other hand", x, 0, 2, 0);
        because("a glove by none", x, 0, 0, 1);
        because("a glove by two", x, 0, 3, 1);
        because("two rods by one hand", x, 1, 4, 1);
        because("two rods by hands of two", x, 1, 24, 1);
        because("two rods by four", x, 1, 60, 1);
        because("two rods by none", x, 1, 0, 1);
        because("two rods by another", x, 1, 48, 0);
        because("one that is off by a hand", x, 2, 2, 1);
        because("one hand for two", x, 0, 4, 2);
    }

    private static void reachAndOrder() {
        SixHands x = three();
        because("a glove out of reach", x, 0, 16, 3);
        because("two rods out of reach", x, 1, 3, 2);
        x.hold(0, 0, 4);
        because("two rods out of reach, hands apart", x, 1, 3, 3);
        SixHands one = new SixHands(5);
        one.puppeteer(2, 7);
        one.figure(0, 1);
        one.figure(0, 1);
        Due.play(one, "enter 0 at 2;enter 1 at 1;beat;go 1 to 2;beat;");
        one.hold(0, 0, 2);
        one.hold(0, 1, 1);
        one.hold(1, 0, 1);
        one.hold(1, 1, 2);
        judged("left ahead of right", one, -1, 0);
        one.hold(0, 0, 1);
        one.hold(0, 1, 2);
        judged("crossed hands of one", one, 0, 4);
        SixHands two = new SixHands(5);
        two.puppeteer(4, 7);
        two.puppeteer(0, 7);
        two.figure(0, 1);
        two.figure(0, 1);
        Due.play(two, "enter 0 at 0;enter 1 at 4;beat;");
        two.hold(0, 0, 1);
        two.hold(0, 1, 4);
        judged("order is by home", two, 0, 4);
        two.hold(0, 0, 8);
        two.hold(0, 1, 2);
        judged("uncrossed", two, -1, 0);
        two.hold(0, 0, 4);
        two.hold(0, 1, 8);
        judged("both by one", two, -1, 0);
    }

    private static void mayAndHooks() {
        SixHands x = three();
        Due.rule(x, "may figure=1 or right=1;");
        judged("a left hand that may not", x, 0, 5);
        because("a right hand that may", x, 0, 2, 0);
        Due.rule(x, "may right=0 and who<2 and kind+place<6;");
        judged("two rods are no right hand", x, -1, 0);
        because("a puppeteer that may not", x, 1, 48, 5);
        x.by(-1);
        judged("without may", x, -1, 0);
        x.rules(0, 0);
        judged("one off, three hands free", x, -1, 0);
        SixHands h = new SixHands(3);
        h.puppeteer(1, 7);
        h.figure(0, 1);
        h.figure(0, 1);
        h.figure(0, 1);
        Due.play(h, "enter 0 at 1;beat;");
        h.hold(0, 0, 1);
        judged("two off, one hand free", h, 0, 6);
        h.rules(1, 0);
        judged("two off, one hand free, one hook", h, -1, 0);
        Due.rule(h, "may 1=2;");
        h.rules(0, 0);
        judged("the least of two reasons", h, 0, 5);
    }

    /** A glove at 2 in three beats, two puppeteers that reach it. */
    private static SixHands still() {
        SixHands x = new SixHands(5);
        x.puppeteer(0, 7);
        x.puppeteer(4, 7);
        x.figure(0, 1);
        Due.play(x, "enter 0 at 2;beat;beat;beat;");
        x.hold(0, 0, 1);
        x.hold(1, 0, 1);
        x.hold(2, 0, 1);
        return x;
    }

    private static void passes() {
        SixHands x = still();
        Due.rule(x, "pass from=0 and to=1 and beat=1 and place=2 and figure=0 and kind=0;");
        judged("none is swapped", x, -1, 0);
        x.hold(2, 0, 4);
        judged("a pass in another beat", x, 2, 7);
        x.hold(1, 0, 8);
        x.hold(2, 0, 8);
        judged("a pass that is so", x, -1, 0);
        x.hold(1, 0, 2);
        x.hold(2, 0, 2);
        judged("from hand to hand of one is a pass too", x, 1, 7);
        x.by(-1);
        judged("without pass", x, -1, 0);
        SixHands off = new SixHands(5);
        off.puppeteer(2, 7);
        off.figure(0, 1);
        Due.play(off, "enter 0 at 2;beat;exit 0;beat;enter 0 at 2;beat;");
        Due.rule(off, "pass 1=2;");
        off.hold(0, 0, 1);
        off.hold(2, 0, 2);
        judged("off between", off, -1, 0);
        Due.is("no swap", 0, off.swaps());
    }

    private static void limits() {
        SixHands x = still();
        x.rules(0, 3);
        judged("three beats, limit 3", x, -1, 0);
        x.rules(0, 2);
        judged("three beats, limit 2", x, 2, 8);
        x.rules(0, 1);
        judged("three beats, limit 1", x, 1, 8);
        x.hold(1, 0, 2);
        judged("the other hand between", x, -1, 0);
        SixHands two = new SixHands(5);
        two.puppeteer(2, 7);
        two.figure(0, 1);
        two.figure(1, 1);
        two.rules(0, 2);
        Due.play(two, "enter 0 at 2;beat;beat;exit 0;enter 1 at 2;beat;");
        two.hold(0, 0, 1);
        two.hold(1, 0, 1);
        two.hold(2, 1, 1);
        judged("a hand tires by whatever it holds", two, 2, 8);
        two.hold(2, 1, 2);
        judged("the other hand rests", two, -1, 0);
    }

    private static void firstBeatAndLeastReason() {
        SixHands x = still();
        x.hold(2, 0, 0);
        judged("beat 2", x, 2, 1);
        Due.rule(x, "may beat#1;");
        judged("beat 1 is ahead", x, 1, 5);
        x.hold(1, 0, 3);
        judged("1 is less than 5", x, 1, 1);
        x.hold(0, 0, 0);
        judged("beat 0 is ahead", x, 0, 1);
    }

    /** Promise 16. */
    private static void swapsOfThePlan() {
        Due.is("swaps of nothing", 0, new SixHands(3).swaps());
        SixHands x = still();
        Due.is("none", 0, x.swaps());
        x.hold(1, 0, 2);
        Due.is("there and back", 2, x.swaps());
        x.hold(2, 0, 2);
        Due.is("there", 1, x.swaps());
        Due.rule(x, "pass 1=2;");
        Due.is("those that can't be count too", 1, x.swaps());
        x.hold(2, 0, 6);
        Due.is("more hands are other hands", 2, x.swaps());
        // Whoever is held by none in one of two beats is held by other hands in them: so the words are taken here.
        SixHands y = still();
        y.hold(1, 0, 0);
        Due.is("by none between", 2, y.swaps());
        y.hold(0, 0, 0);
        Due.is("by none at first", 1, y.swaps());
    }

    /** Promise 17. */
    private static void longest() {
        SixHands x = still();
        Due.is("longest(0)", 3, x.longest(0));
        Due.is("longest(1)", 0, x.longest(1));
        Due.is("longest(3)", 0, x.longest(3));
        Due.is("longest(4)", -1, x.longest(4));
        Due.is("longest(-1)", -1, x.longest(-1));
        x.hold(1, 0, 2);
        Due.is("with a rest", 1, x.longest(0));
        Due.is("the other hand", 1, x.longest(1));
        x.hold(0, 0, 3);
        Due.is("two in a row", 2, x.longest(1));
        x.clear();
        Due.is("of nothing", 0, x.longest(0));
    }

    /** A glove at 0, 2 and 4; one puppeteer reaches the first two, one the last two. */
    private static SixHands walk() {
        SixHands x = new SixHands(5);
        x.puppeteer(0, 2);
        x.puppeteer(4, 2);
        x.figure(0, 3);
        Due.play(x, "enter 0 at 0;beat;go 0 to 2;beat;go 0 to 4;beat;");
        return x;
    }

    private static void plan(String what, SixHands x, int set, int... hands) {
        for (int beat = 0; beat < hands.length; beat++) {
            Due.is(what + " in beat " + beat, hands[beat], x.found(set, beat, 0));
        }
    }

    /** Promises 18 and 19. */
    private static void fewestAndFound() {
        SixHands none = new SixHands(5);
        Due.is("fewest of nothing", 0, none.fewest(0));
        Due.is("no such set", -1, none.fewest(1));
        Due.is("found of nothing", -1, none.found(0, 0, 0));
        SixHands x = walk();
        Due.is("fewest(3)", 1, x.fewest(3));
        Due.is("fewest(1)", -1, x.fewest(1));
        Due.is("fewest(2)", -1, x.fewest(2));
        Due.is("fewest(0)", -1, x.fewest(0));
        Due.is("fewest(4)", -1, x.fewest(4));
        Due.is("fewest(-1)", -1, x.fewest(-1));
        plan("the least holds at first", x, 3, 1, 1, 4);
        Due.is("no plan", -1, x.found(1, 0, 0));
        Due.is("no beat", -1, x.found(3, 3, 0));
        Due.is("beat -1", -1, x.found(3, -1, 0));
        Due.is("no figure", -1, x.found(3, 0, 1));
        Due.is("figure -1", -1, x.found(3, 0, -1));
        Due.is("no set", -1, x.found(4, 0, 0));
        x.rules(0, 1);
        Due.is("limit aside", 1, x.fewest(3));
        plan("limit aside", x, 3, 1, 1, 4);
        Due.play(x, "exit 0;beat;");
        Due.is("off", 0, x.found(3, 3, 0));
        x.puppeteer(2, 2);
        Due.is("one that reaches all", 0, x.fewest(7));
        plan("one that reaches all", x, 7, 16, 16, 16, 0);
        x.clear();
        Due.is("an empty play", 0, x.fewest(0));
    }

    private static void lawsOfTheSearch() {
        SixHands x = walk();
        Due.rule(x, "pass beat=1;");
        Due.is("a pass in beat 1", 1, x.fewest(3));
        plan("a pass in beat 1", x, 3, 1, 4, 4);
        Due.rule(x, "pass from=1;");
        Due.is("no pass from 0", -1, x.fewest(3));
        SixHands y = walk();
        Due.rule(y, "may right=1;");
        plan("right hands", y, 3, 2, 2, 8);
        Due.rule(y, "may who=1 or beat=0;");
        plan("who", y, 3, 1, 4, 4);
        Due.rule(y, "may right=beat-beat/2*2;");
        Due.is("left, right, left", 2, y.fewest(3));
        plan("left, right, left", y, 3, 1, 2, 4);
        SixHands rods = new SixHands(5);
        rods.puppeteer(2, 7);
        rods.puppeteer(2, 7);
        rods.figure(2, 1);
        Due.play(rods, "enter 0 at 2;beat;beat;");
        Due.rule(rods, "may right=0;");
        plan("both hands are no right hand alone", rods, 3, 3, 3);
        plan("by the second", rods, 2, 12, 12);
    }

    private static void crossingInTheSearch() {
        SixHands x = new SixHands(5);
        x.puppeteer(4, 7);
        x.puppeteer(0, 7);
        x.figure(0, 1);
        x.figure(0, 1);
        Due.play(x, "enter 0 at 2;enter 1 at 1;beat;go 1 to 2;beat;go 1 to 3;beat;");
        Due.is("by one", 2, x.fewest(1));
        // They walk by each other, so both are swapped, as soon as figure 0 has the lesser hold by it.
        plan("of figure 0", x, 1, 2, 1, 1);
        Due.is("of figure 1", 1, x.found(1, 0, 1));
        Due.is("of figure 1", 2, x.found(1, 1, 1));
        Due.is("of figure 1", 2, x.found(1, 2, 1));
        Due.is("by two", 1, x.fewest(3));
    }

    private static void hooksOfTheSearch() {
        SixHands x = new SixHands(3);
        x.puppeteer(1, 7);
        x.puppeteer(1, 7);
        x.figure(0, 1);
        x.figure(0, 1);
        x.figure(0, 1);
        Due.play(x, "enter 0 at 1;beat;");
        Due.is("two off, one hand of the set free", -1, x.fewest(1));
        Due.is("two off, three free", 0, x.fewest(3));
        Due.is("least", 3, x.least());
        Due.is("striking frees too few", -1, x.strike(1, 0));
        Due.is("striking frees too few", -1, x.strike(1, 1));
        Due.is("ill", -1, x.ill(1, 0));
        x.rules(1, 0);
        Due.is("with a hook", 0, x.fewest(1));
        Due.is("least", 1, x.least());
        Due.is("ill", 0, x.ill(1, 0));
    }

    /** Promise 20. */
    private static void take() {
        SixHands x = walk();
        x.figure(0, 1);
        x.rules(6, 0);
        x.hold(0, 1, 8);
        Due.is("take(1)", -1, x.take(1));
        Due.is("take(4)", -1, x.take(4));
        Due.is("take(-1)", -1, x.take(-1));
        Due.is("it stays", 8, x.held(0, 1));
        Due.is("take(3)", 1, x.take(3));
        Due.is("held", 1, x.held(0, 0));
        Due.is("held", 1, x.held(1, 0));
        Due.is("held", 4, x.held(2, 0));
        Due.is("off by none", 0, x.held(0, 1));
        judged("what was taken", x, -1, 0);
        Due.is("swaps", 1, x.swaps());
        x.clear();
        Due.is("of nothing", 0, x.take(3));
    }

    /** Promise 21. */
    private static void least() {
        Due.is("without puppeteers", 0, new SixHands(3).least());
        SixHands x = new SixHands(5);
        x.puppeteer(0, 1);
        x.puppeteer(4, 1);
        x.figure(0, 1);
        x.figure(0, 1);
        Due.is("an empty play", 0, x.least());
        x.rules(2, 0);
        Due.play(x, "enter 0 at 4;beat;");
        Due.is("one", 2, x.least());
        Due.play(x, "enter 1 at 0;beat;");
        Due.is("two", 3, x.least());
        x.puppeteer(2, 2);
        Due.is("one is fewer than two", 4, x.least());
        Due.rule(x, "may who<2;");
        Due.is("two again", 3, x.least());
        Due.rule(x, "may who=1;");
        Due.is("none", -1, x.least());
        SixHands y = new SixHands(5);
        y.puppeteer(2, 7);
        y.puppeteer(2, 7);
        y.figure(0, 1);
        Due.play(y, "enter 0 at 4;beat;");
        Due.is("of like ones the lowest", 1, y.least());
        y.clear();
        Due.play(y, "beat;");
        Due.is("one hangs nowhere", 1, y.least());
        y.rules(1, 0);
        Due.is("hooks alone", 0, y.least());
    }

    /** Promise 22. */
    private static void strike() {
        SixHands x = new SixHands(3);
        x.puppeteer(1, 7);
        x.figure(0, 5);
        x.figure(0, 2);
        x.figure(0, 5);
        x.rules(6, 0);
        Due.play(x, "enter 0 at 1;enter 1 at 1;enter 2 at 1;beat;go 1 to 1;go 1 to 0;beat;");
        Due.is("of like ones the lowest", 1, x.strike(1, 0));
        Due.is("its weight", 5, x.strike(1, 1));
        Due.is("by nobody", 7, x.strike(0, 0));
        Due.is("by nobody", 16, x.strike(0, 1));
        Due.is("no set", -1, x.strike(2, 0));
        Due.is("no set", -1, x.strike(-1, 0));
        Due.is("strike(1, 2)", -1, x.strike(1, 2));
        Due.is("strike(1, -1)", -1, x.strike(1, -1));
        Due.rule(x, "may figure=0 or figure=1;");
        Due.is("by a law", 4, x.strike(1, 0));
        Due.is("by a law", 5, x.strike(1, 1));
        x.by(-1);
        x.rules(0, 0);
        Due.is("struck ones hang nowhere", -1, x.strike(1, 0));
        Due.is("nor does its weight", -1, x.strike(1, 1));
        x.rules(1, 0);
        Due.is("one hook", 1, x.strike(1, 0));
        Due.play(x, "hit 0,1;hit 0,2;");
        Due.is("lines grow", 2, x.strike(1, 0));
        Due.is("lines grow", 8, x.strike(1, 1));
        x.puppeteer(1, 7);
        Due.is("nothing to strike", 0, x.strike(3, 0));
        Due.is("nothing to strike", 0, x.strike(3, 1));
        SixHands walk = walk();
        Due.rule(walk, "pass 1=2;");
        walk.rules(1, 0);
        Due.is("no pass can be", 1, walk.strike(3, 0));
        Due.is("three lines of weight 3", 9, walk.strike(3, 1));
    }

    /** Promise 23. */
    private static void ill() {
        SixHands x = walk();
        x.take(3);
        Due.is("0 at 0", -1, x.ill(0, 0));
        Due.is("0 at 1", 1, x.ill(0, 1));
        Due.is("0 at 2, the swap into it counted", 1, x.ill(0, 2));
        Due.is("1 at 0", -1, x.ill(1, 0));
        Due.is("1 at 2", -1, x.ill(1, 2));
        Due.is("none such", -1, x.ill(2, 1));
        Due.is("none such", -1, x.ill(-1, 1));
        Due.is("no beat", -1, x.ill(0, 3));
        Due.is("no beat", -1, x.ill(0, -1));
        x.puppeteer(2, 2);
        Due.is("another from the first beat on", 0, x.ill(1, 0));
        Due.is("another from beat 1 on", 1, x.ill(1, 1));
        Due.is("another from beat 2 on", 1, x.ill(1, 2));
        Due.is("or the other", 1, x.ill(0, 1));
        Due.rule(x, "pass from=0 and to=2;");
        Due.is("by a law", 1, x.ill(1, 1));
        Due.is("by a law", 1, x.ill(0, 1));
        Due.rule(x, "pass from=0 and to=1;");
        Due.is("by another law", -1, x.ill(1, 1));
        Due.is("by another law", 1, x.ill(0, 1));
    }

    private static void illBehindOddHolds() {
        SixHands x = walk();
        x.hold(1, 0, 4);
        Due.is("held on", 0, x.ill(0, 2));
        x.hold(1, 0, 8);
        Due.is("held on by the right", 0, x.ill(0, 2));
        Due.rule(x, "pass from=to;");
        x.hold(1, 0, 12);
        Due.is("two hands become one", 1, x.ill(0, 2));
        x.hold(1, 0, 6);
        Due.is("the lowest hand is the other's", -1, x.ill(0, 2));
        x.by(-1);
        Due.is("without a law", 1, x.ill(0, 2));
        x.hold(1, 0, 0);
        Due.is("held by none", -1, x.ill(0, 2));
        SixHands y = new SixHands(5);
        y.puppeteer(0, 7);
        y.puppeteer(4, 7);
        y.figure(0, 1);
        y.rules(1, 0);
        Due.play(y, "beat;enter 0 at 2;beat;exit 0;beat;");
        Due.is("one that comes is not swapped", 0, y.ill(0, 1));
        Due.is("nor is one that leaves", 0, y.ill(0, 2));
    }

    /** Promise 24. */
    private static void bound() {
        SixHands x = walk();
        Due.is("bound(3)", 0, x.bound(3));
        Due.is("bound(1)", 1, x.bound(1));
        Due.is("bound(2)", 1, x.bound(2));
        Due.is("bound(0)", 2, x.bound(0));
        Due.is("bound(4)", -1, x.bound(4));
        Due.is("bound(-1)", -1, x.bound(-1));
        Due.rule(x, "may beat#1;");
        Due.is("may of both beats", 2, x.bound(3));
        Due.rule(x, "may right=0 or beat=0;");
        Due.is("left hands", 0, x.bound(3));
        Due.rule(x, "may right=beat-beat/2*2;");
        Due.is("no hand in both", 2, x.bound(3));
        SixHands leap = walk();
        Due.play(leap, "go 0 to 0;beat;exit 0;beat;enter 0 at 4;beat;");
        Due.is("a leap, and one that is off between", 1, leap.bound(3));
        Due.is("of nothing", 0, new SixHands(3).bound(0));
        SixHands rods = new SixHands(5);
        rods.puppeteer(0, 2);
        rods.puppeteer(4, 2);
        rods.figure(2, 1);
        Due.play(rods, "enter 0 at 0;beat;go 0 to 2;beat;go 0 to 4;beat;go 0 to 1;beat;");
        Due.is("two rods", 1, rods.bound(3));
        Due.is("two rods by the second", 2, rods.bound(2));
    }

    /** Promise 25. */
    private static void sees() {
        SixHands x = new SixHands(4);
        x.figure(0, 1);
        x.figure(1, 1);
        x.figure(2, 1);
        Due.play(x, "enter 0 at 1;enter 2 at 1;beat;enter 1 at 3;beat;");
        Due.is("all that are on", 5, x.sees(0, 0));
        Due.is("all that are on", 7, x.sees(1, 3));
        Due.is("no seat", -1, x.sees(0, 4));
        Due.is("no seat", -1, x.sees(0, -1));
        Due.is("no beat", -1, x.sees(2, 0));
        Due.is("no beat", -1, x.sees(-1, 0));
        Due.rule(x, "shows many=1 or seat=place;");
        Due.is("alone at its place", 2, x.sees(1, 0));
        Due.is("ahead of the seat", 7, x.sees(1, 1));
        Due.is("in the beat ahead", 0, x.sees(0, 0));
        Due.rule(x, "shows kind=2-figure/2*2+figure/2*2 or beat=0 and figure=0;");
        Due.is("by kind", 4, x.sees(1, 0));
        Due.is("by beat", 5, x.sees(0, 0));
    }

    private static String all(SixHands x) {
        return x.fewest(1) + " " + x.least() + " " + x.strike(1, 0) + " " + x.strike(1, 1) + " " + x.bound(1) + " " + x.judge(1) + " "
            + x.ill(0, 0);
    }

    private static void now(String what, String want, SixHands x) {
        String got = all(x);
        Due.yes(what + ": " + got + ", due is " + want, got.equals(want));
    }

    /** What was answered once is answered anew when something it rests on has changed. */
    private static void askedAgain() {
        SixHands x = new SixHands(3);
        now("nothing", "-1 0 -1 -1 -1 0 -1", x);
        x.puppeteer(0, 1);
        now("a puppeteer", "0 0 0 0 0 0 -1", x);
        x.figure(0, 2);
        Due.play(x, "enter 0 at 1;beat;beat;");
        now("a play", "0 1 0 0 0 1 -1", x);
        x.take(1);
        now("a plan", "0 1 0 0 0 0 -1", x);
        x.image();
        x.figure(0, 2);
        x.figure(0, 2);
        now("two more hang nowhere", "-1 -1 -1 -1 0 6 -1", x);
        x.rules(2, 0);
        now("two hooks", "0 1 0 0 0 0 -1", x);
        x.puppeteer(0, 1);
        now("another", "0 1 0 0 0 0 0", x);
        Due.rule(x, "may who=1;");
        now("a law", "-1 2 1 2 1 5 0", x);
        x.rules(0, 0);
        now("no hooks", "-1 3 -1 -1 1 5 -1", x);
        x.rules(3, 0);
        x.by(-1);
        now("no law", "0 1 0 0 0 0 0", x);
        Due.play(x, "go 0 to 2;beat;");
        now("out of reach", "-1 -1 1 4 1 1 -1", x);
        x.back();
        now("back", "0 1 0 0 0 0 -1", x);
        x.clear();
        now("cleared", "0 0 0 0 0 0 -1", x);
    }
}
