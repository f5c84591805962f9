/** Boundary cases of the document, sentence by sentence: what is sought, and what is seen (part IV, promises 18 to 25). */
public final class SoughtBoundaryTest {
    private SoughtBoundaryTest() { }

    public static void main(String[] args) {
        bySetsAlone();
        limitAside();
        fewestSwaps();
        fewestOfOnes();
        fewestOfTwoRods();
        uncrossed();
        leastHoldFirst();
        holdsByNumber();
        fewestOrNone();
        fewestPuppeteers();
        struckFigures();
        struckWeights();
        struckOffThroughout();
        illFromABeat();
        illAtFirst();
        boundOfBoth();
        boundByMay();
        seenFromSeats();
        fewestAnswers();
        fewestRefused();
        foundHands();
        foundRefused();
        takes();
        takeRefused();
        leastAnswers();
        leastNone();
        strikeAnswers();
        strikeRefused();
        illAnswers();
        illRefused();
        boundAnswers();
        boundRefused();
        seesAnswers();
        seesRefused();
        Due.close();
    }

    /** One that stands at 3 in some beats, by a kind, with puppeteers at 3 that reach all. */
    private static SixHands one(int kind, int beats, int puppeteers) {
        SixHands x = new SixHands(8);
        for (int i = 0; i < puppeteers; i++) {
            x.puppeteer(3, 7);
        }
        x.figure(kind, 1);
        Due.play(x, "enter 0 at 3;" + "beat;".repeat(beats));
        return x;
    }

    /** Six gloves at one place in 24 beats, each of which may be held by another hand in each beat. */
    private static SixHands turning() {
        SixHands x = new SixHands(3);
        for (int i = 0; i < 3; i++) {
            x.puppeteer(1, 7);
        }
        Booths.stand(x, 1, 1, 1, 1, 1, 1);
        Due.play(x, "beat;".repeat(23));
        Due.rule(x, "may 2*who+right=figure+beat-(figure+beat)/6*6;");
        return x;
    }

    /** A glove that goes from place 0 over 2 to 4; one reaches the first two, one the last two. */
    private static SixHands walk() {
        SixHands x = new SixHands(5);
        x.puppeteer(0, 2);
        x.puppeteer(4, 2);
        x.figure(0, 3);
        x.rules(1, 0);
        Due.play(x, "enter 0 at 0;beat;go 0 to 2;beat;go 0 to 4;beat;");
        return x;
    }

    private static void bySetsAlone() {
        Due.says(0, "What is sought is by some PUPPETEERS (a set, bits) alone,");
        for (int kind = 0; kind <= 2; kind++) {
            SixHands x = one(kind, 2, 3);
            for (int set = 0; set < 8; set++) {
                int who = Integer.numberOfTrailingZeros(set);
                int hands = set == 0 ? -1 : (kind == 2 ? 3 : 1) << 2 * who;
                Due.is("kind " + kind + " by set " + set, hands, x.found(set, 1, 0));
            }
        }
        // Hands of others aren't there, so nothing hangs in them.
        SixHands x = new SixHands(3);
        for (int i = 0; i < 3; i++) {
            x.puppeteer(1, 7);
        }
        Booths.stand(x, 1);
        for (int off = 0; off <= 5; off++) {
            for (int set = 1; set < 8; set++) {
                boolean hangs = off <= 2 * Integer.bitCount(set) - 1;
                Due.is(off + " off, by set " + set, hangs ? 0 : -1, x.fewest(set));
            }
            x.figure(0, 1);
        }
    }

    private static void limitAside() {
        Due.says(0, "LIMIT aside:");
        SixHands x = one(0, 24, 2);
        x.rules(1, 1);
        Due.is("fewest", 0, x.fewest(1));
        Due.is("found", 1, x.found(1, 23, 0));
        Due.is("least", 1, x.least());
        Due.is("strike", 0, x.strike(1, 0));
        Due.is("ill", 0, x.ill(1, 0));
        Due.is("take", 0, x.take(1));
        Due.is("ill behind a tired hand", 0, x.ill(1, 23));
        Due.is("but it can't be", 8, x.judge(1));
    }

    private static void fewestSwaps() {
        Due.says(0, "a plan whose BEATS all CAN BE, of the fewest SWAPS;");
        SixHands x = turning();
        Due.is("each is swapped in each beat", 138, x.take(7));
        Due.is("all can be", -1, x.judge(0));
        Due.is("swaps", 138, x.swaps());
        Due.is("at the last beat", 1 << (23 + 5) % 6, x.found(7, 23, 5));
        SixHands still = one(0, 24, 1);
        Due.is("none is swapped", 0, still.fewest(1));
        Due.rule(still, "may beat=23 and right=1 or beat<23 and right=0;");
        Due.is("in the last beat alone", 1, still.fewest(1));
        Due.is("the last but one", 1, still.found(1, 22, 0));
        Due.is("the last", 2, still.found(1, 23, 0));
        Due.rule(still, "may beat=0 and right=1 or beat>0 and right=0;");
        Due.is("in beat 1 alone", 1, still.fewest(1));
        Due.is("the first", 2, still.found(1, 0, 0));
        SixHands costly = one(0, 3, 2);
        Due.rule(costly, "may who=1 or beat#1;");
        Due.is("the least hold at first would cost", 0, costly.fewest(3));
        Due.is("so another is taken", 4, costly.found(3, 0, 0));
        SixHands turns = new SixHands(3);
        turns.puppeteer(1, 7);
        turns.figure(0, 1);
        turns.figure(0, 1);
        Due.play(turns, "enter 0 at 1;beat;exit 0;enter 1 at 1;beat;beat;");
        Due.rule(turns, "may beat<2 or right=1;");
        Due.is("one leaves as the other comes", 0, turns.fewest(1));
        Due.is("by the hand that is right later", 2, turns.found(1, 1, 1));
        Due.is("a play of swaps", 138, turning().fewest(7));
        SixHands empty = turning();
        empty.fewest(7);
        empty.clear();
        Due.is("none of them is left", 0, empty.fewest(7));
    }

    private static void fewestOfOnes() {
        Due.says(0, "a plan whose BEATS all CAN BE, of the fewest SWAPS;");
        for (int hand = 0; hand < 6; hand++) {
            SixHands x = one(0, 3, 3);
            Due.rule(x, "may beat>0 or 2*who+right=" + hand + ";");
            Due.is("hand " + hand + " holds on", 0, x.fewest(7));
            Due.is("at the last", 1 << hand, x.found(7, 2, 0));
        }
        SixHands last = new SixHands(3);
        for (int i = 0; i < 3; i++) {
            last.puppeteer(1, 7);
        }
        Booths.stand(last, 1, 1, 1, 1, 1, 1);
        Due.play(last, "beat;beat;");
        Due.rule(last, "may beat>0 or 2*who+right=5-figure;pass 1=2;");
        Due.is("the last of all ways to hold six", 0, last.fewest(7));
        Due.is("it holds on", 1, last.found(7, 2, 5));
        for (int figure = 0; figure < 5; figure++) {
            SixHands x = new SixHands(3);
            for (int i = 0; i < 3; i++) {
                x.puppeteer(1, 7);
            }
            Booths.stand(x, 1, 1, 1, 1, 1);
            Due.play(x, "beat;");
            String held = "may 2*who+right=figure and not figure+beat*9=" + (figure + 9) + " or 2*who+right=5 and figure+beat*9=" + (figure + 9);
            Due.rule(x, held + ";pass figure=" + figure + " and from=" + figure / 2 + " and to=2;");
            Due.is("one of five is passed to the free hand", 1, x.fewest(7));
            Due.is("by which it is held", 32, x.found(7, 1, figure));
            Due.rule(x, held + ";pass not figure=" + figure + ";");
            Due.is("it can't be", -1, x.fewest(7));
        }
    }

    private static void fewestOfTwoRods() {
        Due.says(0, "a plan whose BEATS all CAN BE, of the fewest SWAPS;");
        for (int from = 0; from < 3; from++) {
            for (int to = 0; to < 3; to++) {
                SixHands x = one(2, 2, 3);
                String held = "may who=" + from + " and beat=0 or who=" + to + " and beat=1;";
                Due.rule(x, held + "pass from=" + from + " and to=" + to + ";");
                Due.is("two rods from " + from + " to " + to, from == to ? 0 : 1, x.fewest(7));
                Due.is("at last", 3 << 2 * to, x.found(7, 1, 0));
                Due.rule(x, held + "pass not from=" + from + " or not to=" + to + ";");
                Due.is("by all passes but that", from == to ? 0 : -1, x.fewest(7));
            }
        }
    }

    private static void uncrossed() {
        Due.says(0, "a plan whose BEATS all CAN BE, of the fewest SWAPS;");
        int[][] homes = {{1, 3, 6}, {1, 6, 3}, {3, 1, 6}, {3, 6, 1}, {6, 1, 3}, {6, 3, 1}, {3, 3, 3}, {6, 1, 6}};
        for (int[] h : homes) {
            for (int kinds = 0; kinds < 4; kinds++) {
                for (int place = 2; place <= 4; place++) {
                    leastUncrossed(h, new int[] {kinds % 2 * 2, kinds / 2 * 2}, place);
                }
            }
        }
        int[][] places = {{3, 4, 5}, {3, 5, 4}, {4, 3, 5}, {4, 5, 3}, {5, 3, 4}, {5, 4, 3}, {4, 4, 3}, {3, 4, 3}, {5, 4, 4}};
        int[][] due = {{1, 2, 4}, {1, 4, 2}, {2, 1, 4}, {2, 4, 1}, {4, 1, 2}, {4, 2, 1}, {2, 4, 1}, {1, 4, 2}, {4, 1, 2}};
        for (int i = 0; i < places.length; i++) {
            SixHands x = new SixHands(8);
            x.puppeteer(3, 7);
            x.puppeteer(5, 7);
            Booths.stand(x, places[i]);
            for (int figure = 0; figure < 3; figure++) {
                Due.is("figure " + figure + " of three, row " + i, due[i][figure], x.found(3, 0, figure));
            }
        }
    }

    /** One at 3 and one at a place, by all who reach them: the least holds of which no hands cross. */
    private static void leastUncrossed(int[] homes, int[] kinds, int place) {
        SixHands x = new SixHands(8);
        for (int home : homes) {
            x.puppeteer(home, 7);
        }
        x.figure(kinds[0], 1);
        x.figure(kinds[1], 1);
        Due.play(x, "enter 0 at 3;enter 1 at " + place + ";beat;");
        for (int one = 0; one < (kinds[0] == 2 ? 3 : 6); one++) {
            for (int other = 0; other < (kinds[1] == 2 ? 3 : 6); other++) {
                int hands = kinds[0] == 2 ? 3 << 2 * one : 1 << one;
                int others = kinds[1] == 2 ? 3 << 2 * other : 1 << other;
                x.hold(0, 0, hands);
                x.hold(0, 1, others);
                if (x.judge(0) == -1) {
                    Due.is("the least hold at 3", hands, x.found(7, 0, 0));
                    Due.is("the least hold at " + place, others, x.found(7, 0, 1));
                    return;
                }
            }
        }
        Due.is("there is none", -1, x.fewest(7));
    }

    private static void leastHoldFirst() {
        Due.says(0, "of like ones that with the least hold at the first BEAT for FIGURE 0, then 1, .., then at the next BEAT");
        SixHands six = new SixHands(3);
        for (int i = 0; i < 3; i++) {
            six.puppeteer(1, 7);
        }
        Booths.stand(six, 1, 1, 1, 1, 1, 1);
        for (int figure = 0; figure < 6; figure++) {
            Due.is("each the least that is left", 1 << figure, six.found(7, 0, figure));
        }
        SixHands x = new SixHands(3);
        x.puppeteer(1, 7);
        x.figure(0, 1);
        x.figure(0, 1);
        Due.play(x, "enter 1 at 1;beat;enter 0 at 1;beat;");
        Due.is("figure 1 at the first beat", 1, x.found(1, 0, 1));
        Due.is("is ahead of figure 0 at the next", 2, x.found(1, 1, 0));
        SixHands late = one(0, 3, 2);
        Due.rule(late, "may who=0 and beat<2 or who=1 and beat>0;");
        Due.is("a swap in beat 1 or 2", 1, late.fewest(3));
        Due.is("the least hold in beat 1, too", 1, late.found(3, 1, 0));
        Due.is("and the swap in beat 2", 4, late.found(3, 2, 0));
        SixHands paid = one(0, 3, 2);
        Due.rule(paid, "may beat=0 and who+right=0 or beat=1 and right=1 or beat=2 and who=right;");
        Due.is("one swap, in beat 1", 1, paid.fewest(3));
        Due.is("not the least hold, which would cost", 8, paid.found(3, 1, 0));
        Due.is("nor behind it", 8, paid.found(3, 2, 0));
        SixHands forced = one(0, 2, 2);
        Due.rule(forced, "may beat=0 and right=0 or beat=1 and who=1 and right=1;pass from=to;");
        Due.is("the least hold can't be passed on", 4, forced.found(3, 0, 0));
    }

    private static void holdsByNumber() {
        Due.says(0, "(holds by number of HAND, of two rods by PUPPETEER).");
        SixHands x = new SixHands(8);
        x.puppeteer(7, 7);
        x.puppeteer(3, 7);
        x.puppeteer(0, 7);
        Booths.stand(x, 3);
        Due.is("the lowest number, though the last in order", 1, x.found(7, 0, 0));
        Due.rule(x, "may right=1;");
        Due.is("the lowest right one", 2, x.found(7, 0, 0));
        SixHands rods = new SixHands(8);
        for (int i = 0; i < 3; i++) {
            rods.puppeteer(3, 7);
            rods.figure(2, 1);
        }
        Due.play(rods, "enter 0 at 3;enter 1 at 3;enter 2 at 3;beat;");
        for (int figure = 0; figure < 3; figure++) {
            Due.is("two rods by puppeteer", 3 << 2 * figure, rods.found(7, 0, figure));
        }
        SixHands both = new SixHands(8);
        both.puppeteer(3, 7);
        both.puppeteer(3, 7);
        both.figure(1, 1);
        both.figure(2, 1);
        Due.play(both, "enter 0 at 3;enter 1 at 3;beat;");
        Due.is("a rod first", 1, both.found(3, 0, 0));
        Due.is("so two rods by the second", 12, both.found(3, 0, 1));
    }

    private static void fewestOrNone() {
        Due.says(0, "FEWEST: its SWAPS; none.");
        Due.is("of no beats", 0, new SixHands(3).fewest(0));
        SixHands x = one(0, 24, 3);
        Due.is("by nobody", -1, x.fewest(0));
        for (int beat = 0; beat < 24; beat += 23) {
            SixHands y = one(0, 24, 3);
            Due.rule(y, "may beat#" + beat + ";");
            Due.is("one beat that can't be", -1, y.fewest(7));
        }
        Due.rule(x, "pass 1=2;may right=1 or beat<23;");
        Due.is("none need be passed", 0, x.fewest(7));
        Due.is("by the right hand", 2, x.found(7, 0, 0));
        Due.rule(x, "pass 1=2;may right=1 and beat=23 or right=0 and beat<23;");
        Due.is("none can be passed", -1, x.fewest(7));
        SixHands off = new SixHands(3);
        off.figure(0, 1);
        off.rules(1, 0);
        Due.play(off, "beat;");
        Due.is("nobody is wanted", 0, off.fewest(0));
        off.rules(0, 0);
        Due.is("it hangs nowhere", -1, off.fewest(0));
    }

    private static void fewestPuppeteers() {
        Due.says(0, "LEAST: the fewest PUPPETEERS by whom THE PLAY can be acted, of like ones the lowest set; none.");
        Due.is("of no beats", 0, new SixHands(3).least());
        String[] laws = {"1=1", "who>0", "who>1", "who=beat", "who=beat+1", "who=2*beat", "1=2"};
        int[] due = {1, 2, 4, 3, 6, 5, -1};
        for (int i = 0; i < laws.length; i++) {
            SixHands x = one(0, 2, 3);
            Due.rule(x, "may " + laws[i] + ";");
            Due.is("by " + laws[i], due[i], x.least());
        }
        SixHands all = one(0, 3, 3);
        Due.rule(all, "may who=beat;");
        Due.is("all three", 7, all.least());
        SixHands four = one(0, 2, 3);
        Due.rule(four, "may who=2 or who<2 and who=beat;");
        Due.is("one of a higher number is fewer than two", 4, four.least());
    }

    private static void struckFigures() {
        Due.says(0, "STRIKE for a set: FIGURES (a set) that are off throughout, so that there is a plan:");
        SixHands x = new SixHands(3);
        x.puppeteer(1, 7);
        x.rules(6, 0);
        Due.is("of nothing", 0, x.strike(1, 0));
        Booths.stand(x, 1, 1, 1, 1, 1, 1);
        Due.is("two hands for six", 15, x.strike(1, 0));
        Due.is("four lines", 4, x.strike(1, 1));
        Due.is("nobody for six", 63, x.strike(0, 0));
        Due.is("six lines", 6, x.strike(0, 1));
        Due.rule(x, "may figure=5;");
        Due.is("all but one", 31, x.strike(1, 0));
        x.puppeteer(1, 7);
        x.puppeteer(1, 7);
        x.by(-1);
        Due.is("nothing need be struck", 0, x.strike(7, 0));
        Due.is("nothing is lost", 0, x.strike(7, 1));
        SixHands one = one(0, 2, 1);
        one.rules(1, 0);
        Due.rule(one, "may beat=0;");
        Due.is("one that can't be in the last beat", 1, one.strike(1, 0));
    }

    private static void struckWeights() {
        Due.says(0, "by which WEIGHT times how many lines they have, together, is least; of like ones the lowest set; none.");
        strikes(1, 99, "go 0 to 1;", 1, 2);
        strikes(49, 99, "go 0 to 1;", 1, 98);
        strikes(50, 99, "go 0 to 1;", 2, 99);
        strikes(1, 2, "go 0 to 1;", 1, 2);
        strikes(99, 99, "", 1, 99);
        strikes(99, 98, "", 2, 98);
        strikes(1, 99, "beat;hit 0,1;go 0 to 1;", 1, 3);
        SixHands x = new SixHands(3);
        x.puppeteer(1, 7);
        for (int figure = 0; figure < 6; figure++) {
            x.figure(0, 99);
        }
        x.rules(6, 0);
        Due.play(x, "enter 0 at 1;enter 1 at 1;enter 2 at 1;enter 3 at 1;enter 4 at 1;enter 5 at 1;beat;");
        Due.read(x, "hit 0,1;hit 2,3;hit 4,5;".repeat(12));
        for (int i = 0; i < 100; i++) {
            x.played(1);
        }
        Due.is("as much as can be", 99 * 6 * 1201, x.strike(0, 1));
        Due.is("all", 63, x.strike(0, 0));
        Due.is("of two hands", 99 * 4 * 1201, x.strike(1, 1));
    }

    /** Two gloves and one hand that may hold them: which is struck, and what is lost by it. */
    private static void strikes(int weight, int other, String more, int struck, int lost) {
        SixHands x = new SixHands(3);
        x.puppeteer(1, 7);
        x.figure(0, weight);
        x.figure(0, other);
        x.rules(6, 0);
        Due.play(x, "enter 0 at 1;enter 1 at 1;beat;" + more);
        Due.rule(x, "may right=0;");
        Due.is("weights " + weight + " and " + other + ", " + more, struck, x.strike(1, 0));
        Due.is("what is lost", lost, x.strike(1, 1));
    }

    private static void struckOffThroughout() {
        Due.says(0, "that are off throughout, so that there is a plan:");
        SixHands x = new SixHands(3);
        x.puppeteer(1, 7);
        Booths.stand(x, 1, 1, 1);
        Due.is("the struck one hangs in no hand", -1, x.strike(1, 0));
        Due.is("none", -1, x.strike(1, 1));
        x.rules(1, 0);
        Due.is("one hook", 1, x.strike(1, 0));
        Due.is("by nobody three hang at one hook", -1, x.strike(0, 0));
        x.rules(2, 0);
        Due.is("nor at two", -1, x.strike(0, 0));
        x.rules(3, 0);
        Due.is("at three", 7, x.strike(0, 0));
        SixHands never = new SixHands(3);
        never.puppeteer(1, 7);
        never.figure(0, 1);
        never.figure(0, 1);
        never.rules(6, 0);
        Due.play(never, "enter 1 at 1;exit 1;beat;");
        Due.is("those that are never on aren't struck", 0, never.strike(0, 0));
        SixHands swapped = one(0, 2, 2);
        swapped.rules(1, 0);
        Due.rule(swapped, "may who=beat;pass 1=2;");
        Due.is("one that can't be passed", 1, swapped.strike(3, 0));
        Due.rule(swapped, "may who=beat;pass from<to;");
        Due.is("one that can", 0, swapped.strike(3, 0));
    }

    private static void illFromABeat() {
        Due.says(0, "ILL: one falls ill at a BEAT b: the fewest SWAPS from b on (those into b counted) by all others, "
            + "THE PLAN being as told at b - 1");
        SixHands x = one(0, 24, 2);
        x.take(1);
        for (int beat = 1; beat < 24; beat++) {
            Due.is("0 at " + beat, 1, x.ill(0, beat));
            Due.is("1 at " + beat, 0, x.ill(1, beat));
        }
        x.hold(22, 0, 4);
        Due.is("as told at 22", 0, x.ill(0, 23));
        Due.is("as told at 22", 1, x.ill(1, 23));
        Due.is("as told at 21", 1, x.ill(0, 22));
        Due.rule(x, "pass beat#23;");
        Due.is("not into 23", -1, x.ill(1, 23));
        Due.is("into 22", 1, x.ill(0, 22));
        Due.is("0 falls ill at 23 and holds nothing", 0, x.ill(0, 23));
        SixHands turn = turning();
        turn.take(7);
        Due.is("two more hands can't do it", -1, turn.ill(2, 23));
        SixHands walk = walk();
        walk.hold(1, 0, 1);
        Due.is("those ahead of b needn't be", 1, walk.ill(0, 2));
        Due.is("all others alone", -1, walk.ill(1, 2));
        SixHands six = new SixHands(3);
        for (int i = 0; i < 3; i++) {
            six.puppeteer(1, 7);
        }
        Booths.stand(six, 1, 1, 1, 1);
        six.figure(0, 1);
        six.figure(0, 1);
        six.rules(2, 0);
        Due.play(six, "beat;beat;");
        six.take(3);
        Due.is("two of four are passed", 2, six.ill(0, 2));
        Due.is("the other two", 2, six.ill(1, 2));
        Due.is("none of four", 0, six.ill(2, 2));
        SixHands alone = one(0, 2, 1);
        alone.take(1);
        Due.is("there are no others", -1, alone.ill(0, 1));
        Due.play(alone, "exit 0;beat;");
        Due.is("it hangs nowhere", -1, alone.ill(0, 2));
        alone.rules(1, 0);
        Due.is("nobody is wanted", 0, alone.ill(0, 2));
    }

    private static void illAtFirst() {
        Due.says(0, "(of b 0: freely): none.");
        SixHands x = one(0, 24, 2);
        Due.is("no plan is told", 0, x.ill(0, 0));
        x.take(1);
        Due.is("whatever is told", 0, x.ill(0, 0));
        Due.rule(x, "pass 1=2;");
        Due.is("nothing is passed into the first", 0, x.ill(0, 0));
        Due.rule(x, "may who=0;");
        Due.is("none", -1, x.ill(0, 0));
        Due.is("by the other", 0, x.ill(1, 0));
        SixHands walk = walk();
        Due.is("0 at first", -1, walk.ill(0, 0));
        walk.puppeteer(2, 2);
        Due.is("another reaches all", 0, walk.ill(0, 0));
    }

    private static void boundOfBoth() {
        Due.says(0, "BOUND for a set: all FIGURES and BEATS at which it is on, as in the BEAT ahead,");
        Due.is("of no beats", 0, new SixHands(3).bound(0));
        SixHands full = new SixHands(3);
        Booths.stand(full, 1, 1, 1, 1, 1, 1);
        Due.is("of one beat", 0, full.bound(0));
        Due.play(full, "beat;".repeat(23));
        Due.is("as high as can be", 138, full.bound(0));
        SixHands x = new SixHands(3);
        x.figure(0, 1);
        Due.play(x, "beat;enter 0 at 1;beat;exit 0;beat;enter 0 at 1;beat;beat;exit 0;beat;");
        Due.is("on in two beats in a row but once", 1, x.bound(0));
    }

    private static void boundByMay() {
        Due.says(0, "and no hold by that set would be in REACH, and as may lets, of both.");
        SixHands x = new SixHands(8);
        x.puppeteer(0, 3);
        x.puppeteer(7, 3);
        x.puppeteer(3, 1);
        x.figure(0, 1);
        Due.play(x, "enter 0 at 0;beat;go 0 to 3;beat;go 0 to 4;beat;go 0 to 7;beat;");
        int[] due = {3, 2, 2, 1, 2, 1, 1, 0};
        for (int set = 0; set < 8; set++) {
            Due.is("by set " + set, due[set], x.bound(set));
        }
        Due.rule(x, "may right=0;");
        Due.is("by left hands", 0, x.bound(7));
        Due.rule(x, "may right=beat-beat/2*2;");
        Due.is("by each hand in turn", 3, x.bound(7));
        Due.rule(x, "pass 1=2;");
        Due.is("pass aside", 0, x.bound(7));
        SixHands rods = one(2, 2, 2);
        Due.is("two rods by one", 0, rods.bound(1));
        Due.rule(rods, "may right=1;");
        Due.is("two rods are no right hand", 1, rods.bound(3));
        Due.rule(rods, "may who=beat;");
        Due.is("by each puppeteer in turn", 1, rods.bound(3));
        SixHands crossed = new SixHands(3);
        crossed.puppeteer(1, 7);
        Booths.stand(crossed, 1, 1, 1);
        Due.play(crossed, "beat;");
        Due.is("hands too few are no bound", 0, crossed.bound(1));
    }

    private static void seenFromSeats() {
        Due.says(0, "SEEN of a BEAT from a SEAT (0 .. P - 1): FIGURES that are on for which shows is so (without: all).");
        for (int places = 3; places <= 8; places++) {
            SixHands x = new SixHands(places);
            Booths.stand(x, 0, places - 1);
            x.figure(0, 1);
            Due.is("ahead of the first seat", -1, x.sees(0, -1));
            Due.is("the first seat", 3, x.sees(0, 0));
            Due.is("the last seat", 3, x.sees(0, places - 1));
            Due.is("behind the last seat", -1, x.sees(0, places));
            Due.rule(x, "shows seat=place;");
            Due.is("the first seat", 1, x.sees(0, 0));
            Due.is("the last seat", 2, x.sees(0, places - 1));
            Due.is("one between", 0, x.sees(0, 1));
            Due.rule(x, "may 1=2;");
            Due.is("without", 3, x.sees(0, 1));
        }
        SixHands all = Booths.full();
        Due.is("by shows: many at 3 alone", 60, all.sees(1, 7));
        all.by(-1);
        Due.is("all six", 63, all.sees(1, 0));
        Due.is("three", 7, all.sees(0, 0));
        SixHands none = new SixHands(3);
        Due.play(none, "beat;");
        Due.is("no figure", 0, none.sees(0, 2));
    }

    /** Sets that aren't there, for booths of so many puppeteers. */
    private static int[] otherSets(int puppeteers) {
        int[] sets = java.util.Arrays.copyOf(Booths.FAR, Booths.FAR.length + 4);
        sets[Booths.FAR.length] = -1;
        sets[Booths.FAR.length + 1] = 1 << puppeteers;
        sets[Booths.FAR.length + 2] = (1 << puppeteers) + 1;
        sets[Booths.FAR.length + 3] = 8;
        return sets;
    }

    /** Promise 18. */
    private static void fewestAnswers() {
        Due.says(18, "FEWEST by a set.");
        SixHands x = walk();
        int[] due = {-1, -1, -1, 1};
        for (int set = 0; set < 4; set++) {
            Due.is("by " + set, due[set], x.fewest(set));
            Due.is("again", due[set], x.fewest(set));
        }
        Due.is("the most", 138, turning().fewest(7));
    }

    private static void fewestRefused() {
        Due.says(18, "NONE: none, and for others.");
        for (int puppeteers = 0; puppeteers <= 3; puppeteers++) {
            SixHands x = new SixHands(3);
            for (int i = 0; i < puppeteers; i++) {
                x.puppeteer(0, 0);
            }
            Due.is("the last set", 0, x.fewest((1 << puppeteers) - 1));
            for (int set : otherSets(puppeteers)) {
                Due.is("set " + set + " of " + puppeteers, -1, x.fewest(set));
            }
        }
        Due.is("none", -1, one(0, 1, 1).fewest(0));
    }

    /** Promise 19. */
    private static void foundHands() {
        Due.says(19, "HANDS that hold a FIGURE in a BEAT by the plan of FEWEST (0: it is off).");
        SixHands x = new SixHands(8);
        x.puppeteer(3, 7);
        for (int figure = 0; figure < 6; figure++) {
            x.figure(figure == 5 ? 2 : 0, 1);
        }
        x.rules(6, 0);
        Due.play(x, "beat;".repeat(23) + "enter 5 at 7;beat;");
        for (int figure = 0; figure < 6; figure++) {
            Due.is("off in the first", 0, x.found(1, 0, figure));
            Due.is("in the last", figure == 5 ? 3 : 0, x.found(1, 23, figure));
        }
        x.hold(23, 5, 0);
        Due.is("not by THE PLAN", 3, x.found(1, 23, 5));
        Due.is("THE PLAN is as told", 0, x.held(23, 5));
        x.rules(4, 0);
        Due.is("no plan any more", -1, x.found(1, 23, 5));
        Due.is("of the one that is off, too", -1, x.found(1, 23, 0));
    }

    private static void foundRefused() {
        Due.says(19, "NONE: there is none, and for others.");
        SixHands x = walk();
        Due.is("there is one", 4, x.found(3, 2, 0));
        int[][] others = {{1, 0, 0}, {2, 0, 0}, {0, 0, 0}, {3, 3, 0}, {3, -1, 0}, {3, 24, 0}, {3, 0, 1}, {3, 0, -1}, {3, 0, 6}};
        for (int[] o : others) {
            Due.is("found(" + o[0] + ", " + o[1] + ", " + o[2] + ")", -1, x.found(o[0], o[1], o[2]));
        }
        for (int far : Booths.FAR) {
            Due.is("set " + far, -1, x.found(far, 0, 0));
            Due.is("beat " + far, -1, x.found(3, far, 0));
            Due.is("figure " + far, -1, x.found(3, 0, far));
        }
        for (int set : otherSets(2)) {
            Due.is("set " + set, -1, x.found(set, 0, 0));
        }
        SixHands empty = new SixHands(3);
        empty.figure(0, 1);
        Due.is("no beat", -1, empty.found(0, 0, 0));
    }

    /** Promise 20. */
    private static void takes() {
        Due.says(20, "THE PLAN is that of FEWEST by a set: its SWAPS.");
        Due.is("of no beats", 0, new SixHands(3).take(0));
        SixHands x = walk();
        x.figure(0, 1);
        x.rules(6, 0);
        for (int beat = 0; beat < 3; beat++) {
            x.hold(beat, 0, 15);
            x.hold(beat, 1, 15);
        }
        Due.is("swaps", 1, x.take(3));
        for (int beat = 0; beat < 3; beat++) {
            Due.is("as found", x.found(3, beat, 0), x.held(beat, 0));
            Due.is("off by none", 0, x.held(beat, 1));
        }
        Due.is("it can be", -1, x.judge(0));
        SixHands turn = turning();
        Due.is("the most", 138, turn.take(7));
        Due.is("the last beat", turn.found(7, 23, 5), turn.held(23, 5));
        SixHands by = one(0, 1, 3);
        for (int set = 7; set > 0; set--) {
            Due.is("by " + set, 0, by.take(set));
            Due.is("held", 1 << 2 * Integer.numberOfTrailingZeros(set), by.held(0, 0));
        }
    }

    private static void takeRefused() {
        Due.says(20, "NONE, and it stays: there is none, and for others.");
        Portrait.stays("take", Booths::ripe, x -> {
            Due.is("nobody", -1, x.take(0));
            Due.is("one alone", -1, x.take(1));
            for (int set : otherSets(2)) {
                Due.is("take(" + set + ")", -1, x.take(set));
            }
        });
        Portrait.stays("take of a full one", Booths::full, x -> {
            Due.is("one alone", -1, x.take(1));
            for (int set : otherSets(3)) {
                Due.is("take(" + set + ")", -1, x.take(set));
            }
        });
    }

    /** Promise 21. */
    private static void leastAnswers() {
        Due.says(21, "LEAST: a set of PUPPETEERS (0: without).");
        Due.is("no beats", 0, Booths.glove(3, 0, 3).least());
        SixHands off = new SixHands(3);
        off.puppeteer(0, 0);
        off.figure(0, 1);
        off.rules(1, 0);
        Due.play(off, "beat;");
        Due.is("without", 0, off.least());
        off.rules(0, 0);
        Due.is("one for what hangs", 1, off.least());
        Due.is("the highest", 7, turning().least());
        Due.is("as nobody is wanted", 0, new SixHands(8).least());
    }

    private static void leastNone() {
        Due.says(21, "NONE: none.");
        Due.is("nobody is there", -1, one(0, 1, 0).least());
        SixHands x = one(0, 1, 3);
        Due.rule(x, "may 1=2;");
        Due.is("a law", -1, x.least());
        SixHands far = new SixHands(8);
        far.puppeteer(0, 6);
        far.puppeteer(0, 6);
        Booths.stand(far, 7);
        Due.is("out of reach", -1, far.least());
        far.puppeteer(1, 6);
        Due.is("in reach of the third", 4, far.least());
    }

    /** Promise 22. */
    private static void strikeAnswers() {
        Due.says(22, "STRIKE for a set: 0 FIGURES (bits), 1 the weight.");
        SixHands x = Booths.full();
        x.by(-1);
        int[] due = {63, 15, 15, 3, 15, 3, 3, 0};
        for (int set = 0; set < 8; set++) {
            Due.is("figures by " + set, due[set], x.strike(set, 0));
            Due.is("weight by " + set, 99 * Integer.bitCount(due[set]), x.strike(set, 1));
        }
        Due.is("of nothing", 0, new SixHands(3).strike(0, 0));
        Due.is("of nothing", 0, new SixHands(3).strike(0, 1));
    }

    private static void strikeRefused() {
        Due.says(22, "NONE: none, and for others.");
        SixHands x = one(0, 1, 2);
        Due.is("it would hang nowhere", -1, x.strike(0, 0));
        Due.is("it would hang nowhere", -1, x.strike(0, 1));
        for (int what : new int[] {-1, 2, 3}) {
            Due.is("strike(1, " + what + ")", -1, x.strike(1, what));
            Due.is("strike(0, " + what + ")", -1, x.strike(0, what));
        }
        for (int far : Booths.FAR) {
            Due.is("strike(1, " + far + ")", -1, x.strike(1, far));
        }
        for (int set : otherSets(2)) {
            Due.is("strike(" + set + ", 0)", -1, x.strike(set, 0));
            Due.is("strike(" + set + ", 1)", -1, x.strike(set, 1));
        }
    }

    /** Promise 23. */
    private static void illAnswers() {
        Due.says(23, "ILL.");
        SixHands x = one(0, 2, 3);
        x.take(7);
        int[][] due = {{0, 1}, {0, 0}, {0, 0}};
        for (int who = 0; who < 3; who++) {
            for (int beat = 0; beat < 2; beat++) {
                Due.is("ill(" + who + ", " + beat + ")", due[who][beat], x.ill(who, beat));
            }
        }
        Due.is("THE PLAN stays", 1, x.held(1, 0));
        SixHands most = new SixHands(3);
        for (int i = 0; i < 3; i++) {
            most.puppeteer(1, 7);
        }
        Booths.stand(most, 1, 1, 1, 1);
        Due.play(most, "beat;".repeat(23));
        Due.rule(most, "may 2*who+right-2=figure+beat-(figure+beat)/4*4;");
        Due.is("four in each of 23", 92, most.ill(0, 0));
        for (int figure = 0; figure < 4; figure++) {
            most.hold(0, figure, 1 << figure);
        }
        Due.is("all into beat 1", 92, most.ill(0, 1));
    }

    private static void illRefused() {
        Due.says(23, "NONE: none, and for others.");
        for (int puppeteers = 0; puppeteers <= 3; puppeteers++) {
            SixHands x = one(0, 2, puppeteers);
            x.take((1 << puppeteers) - 1);
            for (int who = -1; who <= 4; who++) {
                boolean isThere = who >= 0 && who < puppeteers;
                Due.is("who " + who + " of " + puppeteers, isThere && puppeteers > 1 ? 0 : -1, x.ill(who, 0));
            }
            Due.is("beat -1", -1, x.ill(0, -1));
            Due.is("beat 2", -1, x.ill(0, 2));
            for (int far : Booths.FAR) {
                Due.is("who " + far, -1, x.ill(far, 0));
                Due.is("beat " + far, -1, x.ill(0, far));
            }
        }
        SixHands last = one(0, 24, 2);
        last.take(2);
        Due.is("the last beat", 0, last.ill(0, 23));
        Due.is("behind the last", -1, last.ill(0, 24));
        Due.is("no beats", -1, Booths.glove(3, 0, 2).ill(0, 0));
    }

    /** Promise 24. */
    private static void boundAnswers() {
        Due.says(24, "BOUND for a set.");
        SixHands x = walk();
        int[] due = {2, 1, 1, 0};
        for (int set = 0; set < 4; set++) {
            Due.is("by " + set, due[set], x.bound(set));
        }
        Due.is("of swaps", 138, turning().bound(7));
        Due.is("of one that needs none", 0, one(0, 24, 3).bound(1));
    }

    private static void boundRefused() {
        Due.says(24, "NONE for others.");
        for (int puppeteers = 0; puppeteers <= 3; puppeteers++) {
            SixHands x = one(0, 2, puppeteers);
            Due.is("the last set", puppeteers == 0 ? 1 : 0, x.bound((1 << puppeteers) - 1));
            for (int set : otherSets(puppeteers)) {
                Due.is("bound(" + set + ") of " + puppeteers, -1, x.bound(set));
            }
        }
    }

    /** Promise 25. */
    private static void seesAnswers() {
        Due.says(25, "SEEN (bits).");
        SixHands x = new SixHands(8);
        Booths.stand(x, 7, 6, 5, 4, 3, 2);
        for (int figure = 0; figure < 6; figure++) {
            SixHands y = new SixHands(8);
            Booths.stand(y, 7, 6, 5, 4, 3, 2);
            Due.rule(y, "shows figure=" + figure + ";");
            Due.is("figure " + figure + " alone", 1 << figure, y.sees(0, 0));
        }
        Due.rule(x, "shows 1=2;");
        Due.is("nobody", 0, x.sees(0, 7));
        Due.rule(x, "shows place>seat;");
        int[] due = {63, 63, 31, 15, 7, 3, 1, 0};
        for (int seat = 0; seat < 8; seat++) {
            Due.is("from " + seat, due[seat], x.sees(0, seat));
        }
    }

    private static void seesRefused() {
        Due.says(25, "NONE for others.");
        SixHands x = Booths.ripe();
        int[][] others = {{3, 0}, {-1, 0}, {-2, 0}, {24, 0}, {0, 5}, {0, -1}, {0, 8}, {3, 5}};
        for (int[] o : others) {
            Due.is("sees(" + o[0] + ", " + o[1] + ")", -1, x.sees(o[0], o[1]));
        }
        for (int far : Booths.FAR) {
            Due.is("beat " + far, -1, x.sees(far, 0));
            Due.is("seat " + far, -1, x.sees(0, far));
        }
        SixHands last = Booths.glove(3, 24, 1);
        Due.is("the last beat", 1, last.sees(23, 7));
        Due.is("behind it", -1, last.sees(24, 7));
        Due.is("no beat", -1, new SixHands(3).sees(0, 0));
    }
}
