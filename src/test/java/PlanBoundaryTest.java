/** Boundary cases of the document, sentence by sentence: when a beat can be, swaps and tired arms (part III, promises 15 to 17). */
public final class PlanBoundaryTest {
    private PlanBoundaryTest() { }

    public static void main(String[] args) {
        wantedHands();
        heldByNone();
        noHandHoldsTwo();
        inReach();
        noTwoCross();
        crossingOfMany();
        mayOfThoseOn();
        hooksAndFreeHands();
        whatIsSwapped();
        passForIt();
        heldByNoHand();
        tiredHands();
        noLimit();
        judgedFirst();
        whyLeast();
        swapsOfAll();
        longestInARow();
        judgeAnswers();
        judgeRefused();
        swapsAnswers();
        longestAnswers();
        longestRefused();
        Due.close();
    }

    private static void why(String what, SixHands x, int why) {
        Due.is("judge(1) of " + what, why, x.judge(1));
        Due.is("judge(0) of " + what, why == 0 ? -1 : 0, x.judge(0));
    }

    private static void first(String what, SixHands x, int beat, int why) {
        Due.is("judge(0) of " + what, beat, x.judge(0));
        Due.is("judge(1) of " + what, why, x.judge(1));
    }

    private static SixHands booth(int... homesAndReaches) {
        SixHands x = new SixHands(8);
        for (int i = 0; i + 1 < homesAndReaches.length; i += 2) {
            x.puppeteer(homesAndReaches[i], homesAndReaches[i + 1]);
        }
        x.rules(6, 0);
        return x;
    }

    private static void wantedHands() {
        Due.says(0, "A glove and a rod want one HAND, two rods both HANDS of one PUPPETEER.");
        for (int kind = 0; kind <= 2; kind++) {
            SixHands x = booth(3, 7, 3, 7, 3, 7);
            x.figure(kind, 1);
            Due.play(x, "enter 0 at 3;beat;");
            for (int hands = 0; hands < 64; hands++) {
                boolean one = Integer.bitCount(hands) == 1;
                boolean both = hands == 3 || hands == 12 || hands == 48;
                x.hold(0, 0, hands);
                why("kind " + kind + " by " + hands, x, (kind == 2 ? both : one) ? 0 : 1);
            }
        }
    }

    private static void heldByNone() {
        Due.says(0, "(1) each FIGURE that is on is held by HANDS as it wants them, those that are off by none;");
        SixHands x = booth(3, 7, 3, 7, 3, 7);
        for (int i = 0; i < 6; i++) {
            x.figure(0, 1);
        }
        Due.play(x, "beat;");
        why("all off by none", x, 0);
        for (int hands = 1; hands < 64; hands++) {
            x.hold(0, 5, hands);
            why("the last, off, by " + hands, x, 1);
        }
        x.hold(0, 5, 0);
        why("by none again", x, 0);
        SixHands on = booth(3, 7);
        Booths.stand(on, 3, 3);
        why("both by none", on, 1);
        on.hold(0, 0, 1);
        why("the last by none", on, 1);
        on.hold(0, 1, 2);
        why("each by one", on, 0);
        on.hold(0, 0, 0);
        why("the first by none", on, 1);
    }

    private static void noHandHoldsTwo() {
        Due.says(0, "(2) no HAND holds two;");
        SixHands x = booth(3, 7, 3, 7, 3, 7);
        Booths.stand(x, 3, 3, 3);
        x.hold(0, 1, 2);
        for (int one = 0; one < 6; one++) {
            for (int other = 0; other < 6; other++) {
                x.hold(0, 0, 1 << one);
                x.hold(0, 2, 1 << other);
                why("hands " + one + ", 1 and " + other, x, one == other || one == 1 || other == 1 ? 2 : 0);
            }
        }
        SixHands rods = booth(3, 7, 3, 7);
        rods.figure(2, 1);
        rods.figure(1, 1);
        Due.play(rods, "enter 0 at 3;enter 1 at 3;beat;");
        for (int hand = 0; hand < 4; hand++) {
            rods.hold(0, 0, 12);
            rods.hold(0, 1, 1 << hand);
            why("two rods by the second, a rod by " + hand, rods, hand < 2 ? 0 : 2);
        }
    }

    private static void inReach() {
        Due.says(0, "(3) each is in REACH: HOME and PLACE part by REACH at most;");
        for (int home = 0; home < 8; home++) {
            for (int reach = 0; reach < 8; reach++) {
                SixHands x = booth(home, reach);
                x.figure(home % 3, 1);
                StringBuilder text = new StringBuilder("enter 0 at 0;beat;");
                for (int place = 1; place < 8; place++) {
                    text.append("go 0 to ").append(place).append(";beat;");
                }
                Due.play(x, text.toString());
                for (int place = 0; place < 8; place++) {
                    x.hold(place, 0, home % 3 == 2 ? 3 : 2);
                }
                // Those ahead of the reach come first; then those behind it.
                int beat = home > reach ? 0 : home + reach < 7 ? home + reach + 1 : -1;
                first("home " + home + ", reach " + reach, x, beat, beat < 0 ? 0 : 3);
            }
        }
        SixHands two = booth(3, 1, 3, 2);
        Booths.stand(two, 3, 5);
        two.hold(0, 0, 2);
        two.hold(0, 1, 8);
        why("each in its own reach", two, 0);
        two.hold(0, 0, 4);
        two.hold(0, 1, 2);
        why("the last out of reach", two, 3);
        SixHands gone = booth(3, 1);
        Booths.stand(gone, 4);
        gone.hold(0, 0, 1);
        why("in reach", gone, 0);
        gone.clear();
        Due.play(gone, "enter 0 at 5;beat;");
        gone.hold(0, 0, 1);
        why("the next place isn't", gone, 3);
    }

    private static void noTwoCross() {
        Due.says(0, "(4) no two HANDS cross: of two in order the first one's FIGURE isn't at a PLACE behind that of the second one's;");
        int[][] homes = {{2, 5}, {5, 2}, {4, 4}, {0, 7}};
        for (int[] h : homes) {
            for (int one = 1; one <= 3; one++) {
                SixHands x = booth(h[0], 7, h[1], 7);
                Booths.stand(x, one, 2);
                crossings(x, h, one, 2);
            }
        }
    }

    private static void crossings(SixHands x, int[] homes, int one, int other) {
        for (int a = 0; a < 4; a++) {
            for (int b = 0; b < 4; b++) {
                if (a != b) {
                    int keyA = homes[a / 2] * 10 + a;
                    int keyB = homes[b / 2] * 10 + b;
                    boolean crossed = keyA < keyB ? one > other : other > one;
                    x.hold(0, 0, 1 << a);
                    x.hold(0, 1, 1 << b);
                    why("homes " + homes[0] + " " + homes[1] + ", hand " + a + " at " + one + ", " + b + " at " + other, x, crossed ? 4 : 0);
                }
            }
        }
    }

    private static void crossingOfMany() {
        Due.says(0, "(4) no two HANDS cross:");
        SixHands x = booth(1, 7, 3, 7, 6, 7);
        Booths.stand(x, 2, 3, 3, 4, 4, 4);
        for (int figure = 0; figure < 6; figure++) {
            x.hold(0, figure, 1 << figure);
        }
        why("six in order", x, 0);
        x.hold(0, 1, 4);
        x.hold(0, 2, 2);
        why("two at one place by each other's hands", x, 0);
        x.hold(0, 0, 32);
        x.hold(0, 5, 1);
        why("the first and the last", x, 4);
        SixHands rods = booth(6, 7, 1, 7);
        rods.figure(2, 1);
        rods.figure(2, 1);
        Due.play(rods, "enter 0 at 3;enter 1 at 4;beat;");
        rods.hold(0, 0, 12);
        rods.hold(0, 1, 3);
        why("two rods in order of homes", rods, 0);
        rods.hold(0, 0, 3);
        rods.hold(0, 1, 12);
        why("two rods crossed", rods, 4);
    }

    private static void mayOfThoseOn() {
        Due.says(0, "(5) may is so for each FIGURE that is on (without: so);");
        SixHands x = booth(3, 7);
        Booths.stand(x, 3, 3);
        x.figure(0, 1);
        x.hold(0, 0, 1);
        x.hold(0, 1, 2);
        why("no text", x, 0);
        Due.rule(x, "pass 1=2;shows 1=2;");
        why("a text without may", x, 0);
        Due.rule(x, "may figure<2;");
        why("not so for one that is off", x, 0);
        Due.rule(x, "may figure=0;");
        why("not so for the last that is on", x, 5);
        SixHands y = booth(3, 7);
        Booths.stand(y, 3, 3);
        y.hold(0, 0, 1);
        y.hold(0, 1, 2);
        Due.rule(y, "may figure=1;");
        why("not so for the first", y, 5);
        Due.rule(y, "may right=figure;");
        why("so for each by its hand", y, 0);
        y.hold(0, 0, 2);
        y.hold(0, 1, 1);
        why("so for none", y, 5);
        y.by(-1);
        why("without", y, 0);
    }

    private static void hooksAndFreeHands() {
        Due.says(0, "(6) of FIGURES that are off, as many as are more than HOOKS, are no more than HANDS that hold nothing;");
        for (int puppeteers = 0; puppeteers <= 3; puppeteers++) {
            for (int on = 0; on <= 2 * puppeteers; on++) {
                SixHands x = new SixHands(3);
                for (int i = 0; i < puppeteers; i++) {
                    x.puppeteer(1, 7);
                }
                int[] places = new int[on];
                java.util.Arrays.fill(places, 1);
                Booths.stand(x, places);
                for (int figure = 0; figure < on; figure++) {
                    x.hold(0, figure, 1 << figure);
                }
                for (int off = 0; off + on <= 6; off++) {
                    hang(x, off, 2 * puppeteers - on);
                    x.figure(off % 3, 1);
                }
            }
        }
        SixHands rods = booth(1, 7);
        rods.figure(2, 1);
        rods.figure(0, 1);
        Due.play(rods, "enter 0 at 1;beat;");
        rods.hold(0, 0, 3);
        rods.rules(0, 0);
        why("two rods leave no hand", rods, 6);
        rods.rules(1, 0);
        why("a hook does", rods, 0);
    }

    private static void hang(SixHands x, int off, int free) {
        for (int hooks = 0; hooks <= 6; hooks++) {
            x.rules(hooks, 0);
            why(off + " off, " + hooks + " hooks, " + free + " free", x, off - hooks <= free ? 0 : 6);
        }
    }

    private static void whatIsSwapped() {
        Due.says(0, "(7) a FIGURE that is on in this BEAT and in the one ahead, and is held by other HANDS now, is SWAPPED:");
        SixHands x = Booths.glove(3, 1, 2);
        Due.rule(x, "pass 1=2;");
        x.hold(0, 0, 2);
        first("the first beat has none ahead", x, -1, 0);
        Due.play(x, "go 0 to 4;beat;exit 0;beat;enter 0 at 3;beat;");
        x.rules(6, 0);
        x.hold(1, 0, 2);
        x.hold(3, 0, 4);
        first("the same hand at another place; off between", x, -1, 0);
        Due.is("no swap", 0, x.swaps());
        for (int hand = 0; hand < 4; hand++) {
            x.hold(1, 0, 1 << hand);
            first("hand 1, then " + hand, x, hand == 1 ? -1 : 1, hand == 1 ? 0 : 7);
            Due.is("swaps", hand == 1 ? 0 : 1, x.swaps());
        }
    }

    private static void passForIt() {
        Due.says(0, "pass is so for it (from: the PUPPETEER of the lowest HAND that held it, to: of that which holds it, place and beat: now; "
            + "without: so;");
        for (int from = 0; from < 6; from++) {
            for (int to = 0; to < 6; to++) {
                if (from != to) {
                    passes(from, to);
                }
            }
        }
        SixHands rods = booth(3, 7, 3, 7, 3, 7);
        rods.figure(2, 1);
        Due.play(rods, "enter 0 at 3;beat;beat;");
        rods.hold(0, 0, 48);
        rods.hold(1, 0, 12);
        Due.rule(rods, "pass from=2 and to=1 and kind=2;");
        first("two rods from 2 to 1", rods, -1, 0);
        rods.hold(1, 0, 3);
        first("two rods from 2 to 0", rods, 1, 7);
        SixHands odd = Booths.glove(3, 2, 3);
        odd.hold(0, 0, 4 + 2);
        Due.rule(odd, "pass from=0;may who=1 and right=1;");
        Due.is("of hands 1 and 2 the lowest is 0's", 1, odd.ill(2, 1));
        odd.hold(0, 0, 16 + 4);
        Due.is("of hands 2 and 4 it isn't", -1, odd.ill(2, 1));
    }

    private static void passes(int from, int to) {
        SixHands x = Booths.glove(3, 1, 3);
        Due.play(x, "go 0 to 5;beat;");
        x.hold(0, 0, 1 << from);
        x.hold(1, 0, 1 << to);
        first("without", x, -1, 0);
        String law = "pass from=" + from / 2 + " and to=" + to / 2 + " and place=5 and beat=1 and figure=0 and kind=0";
        Due.rule(x, law + ";");
        first(law, x, -1, 0);
        Due.rule(x, law.replace("pass ", "pass not ").replace(" and ", " or not ") + ";");
        first("all but " + law, x, 1, 7);
    }

    private static void heldByNoHand() {
        Due.says(0, "who held it by no HAND can't be SWAPPED);");
        SixHands x = Booths.glove(3, 3, 2);
        x.hold(0, 0, 1);
        Due.is("held by one", 0, x.ill(1, 1));
        Due.is("held by the other's", 1, x.ill(0, 1));
        x.hold(0, 0, 0);
        Due.is("held by none", -1, x.ill(1, 1));
        Due.is("held by none", -1, x.ill(0, 1));
        Due.is("of the first beat freely", 0, x.ill(0, 0));
        x.hold(1, 0, 1);
        Due.is("by none in an older beat", 0, x.ill(1, 2));
        first("the beat ahead can't be itself", x, 0, 1);
    }

    private static void tiredHands() {
        Due.says(0, "(8) no HAND holds a FIGURE in more than LIMIT BEATS one behind the other, to this one");
        SixHands x = Booths.glove(3, 24, 1);
        x.take(1);
        for (int limit = 1; limit <= 24; limit++) {
            x.rules(0, limit);
            first("limit " + limit, x, limit < 24 ? limit : -1, limit < 24 ? 8 : 0);
        }
        x.rules(0, 11);
        x.hold(11, 0, 2);
        first("a rest between", x, 23, 8);
        x.hold(23, 0, 2);
        first("two rests", x, -1, 0);
        SixHands rods = booth(3, 7, 3, 7);
        rods.figure(2, 1);
        Due.play(rods, "enter 0 at 3;beat;beat;beat;");
        rods.rules(0, 2);
        rods.hold(0, 0, 3);
        rods.hold(1, 0, 3);
        rods.hold(2, 0, 3);
        first("both hands", rods, 2, 8);
        rods.hold(2, 0, 12);
        first("both of the other", rods, -1, 0);
    }

    private static void noLimit() {
        Due.says(0, "(LIMIT 0: none).");
        SixHands x = Booths.glove(3, 24, 1);
        x.take(1);
        first("at first", x, -1, 0);
        x.rules(0, 1);
        first("limit 1", x, 1, 8);
        x.rules(0, 0);
        first("limit 0", x, -1, 0);
        Due.is("24 in a row", 24, x.longest(0));
    }

    private static void judgedFirst() {
        Due.says(0, "JUDGED: the first BEAT that CAN'T BE; none.");
        first("no beats", new SixHands(3), -1, 0);
        SixHands x = Booths.glove(3, 24, 1);
        x.take(1);
        first("all can be", x, -1, 0);
        for (int beat = 23; beat >= 0; beat--) {
            x.hold(beat, 0, 0);
            first("from " + beat + " on none can", x, beat, 1);
        }
        for (int beat = 0; beat < 24; beat++) {
            x.hold(beat, 0, 1);
            first("to " + beat + " all can", x, beat < 23 ? beat + 1 : -1, beat < 23 ? 1 : 0);
        }
    }

    private static void whyLeast() {
        Due.says(0, "WHY: the least of (1) to (8) that isn't so in it.");
        SixHands x = new SixHands(8);
        x.puppeteer(0, 7);
        x.puppeteer(4, 7);
        x.puppeteer(7, 1);
        for (int figure = 0; figure < 6; figure++) {
            x.figure(figure == 3 ? 2 : 0, 1);
        }
        Due.play(x, "enter 0 at 2;enter 1 at 3;enter 2 at 4;beat;enter 3 at 7;beat;");
        x.rules(0, 1);
        Due.read(x, "pass 1=2;");
        Due.rule(x, "may beat=0 or figure#0;pass 1=2;");
        x.hold(0, 0, 1);
        x.hold(0, 1, 4);
        x.hold(0, 2, 8);
        holds(x, 16, 4, 4, 3, 32);
        first("all eight", x, 1, 1);
        holds(x, 16, 4, 4, 3, 0);
        first("none held that is off", x, 1, 2);
        holds(x, 16, 8, 4, 3, 0);
        first("hands apart", x, 1, 3);
        holds(x, 2, 8, 4, 48, 0);
        first("in reach", x, 1, 4);
        holds(x, 2, 4, 8, 48, 0);
        first("uncrossed", x, 1, 5);
        x.by(1);
        first("without may", x, 1, 6);
        x.rules(1, 1);
        first("one hook", x, 1, 7);
        x.by(-1);
        first("without pass", x, 1, 8);
        x.rules(1, 0);
        first("without a limit", x, -1, 0);
    }

    /** The holds of beat 1 by figure. */
    private static void holds(SixHands x, int... hands) {
        for (int figure = 0; figure < hands.length; figure++) {
            x.hold(1, figure, hands[figure]);
        }
    }

    private static void swapsOfAll() {
        Due.says(0, "SWAPS of THE PLAN: all that are SWAPPED.");
        Due.is("no beats", 0, new SixHands(3).swaps());
        SixHands x = new SixHands(3);
        for (int i = 0; i < 3; i++) {
            x.puppeteer(1, 7);
        }
        Booths.stand(x, 1, 1, 1, 1, 1, 1);
        Due.is("one beat", 0, x.swaps());
        Due.play(x, "beat;".repeat(23));
        int told = 0;
        for (int beat = 0; beat < 24; beat++) {
            for (int figure = 0; figure < 6; figure++) {
                x.hold(beat, figure, 1 << (beat + figure) % 6);
                told++;
            }
        }
        Due.is("told", 144, told);
        Due.is("six in each beat but the first", 138, x.swaps());
        first("all can be", x, -1, 0);
    }

    private static void longestInARow() {
        Due.says(0, "LONGEST of a HAND: the most BEATS one behind the other in which it holds one.");
        SixHands x = Booths.glove(3, 24, 1);
        Due.is("none", 0, x.longest(0));
        x.hold(0, 0, 1);
        Due.is("the first alone", 1, x.longest(0));
        x.hold(23, 0, 1);
        Due.is("the last alone, too", 1, x.longest(0));
        x.hold(22, 0, 3);
        Due.is("the last two", 2, x.longest(0));
        Due.is("the right one", 1, x.longest(1));
        x.hold(1, 0, 1);
        x.hold(2, 0, 1);
        Due.is("the first three", 3, x.longest(0));
        for (int beat = 3; beat < 22; beat++) {
            x.hold(beat, 0, 1);
        }
        Due.is("all", 24, x.longest(0));
        SixHands two = booth(3, 7);
        Booths.stand(two, 3, 3);
        Due.play(two, "beat;");
        two.hold(0, 0, 1);
        two.hold(0, 1, 1);
        two.hold(1, 1, 1);
        Due.is("two figures in one beat are one beat", 2, two.longest(0));
    }

    /** Promise 15. */
    private static void judgeAnswers() {
        Due.says(15, "JUDGED: 0 the first BEAT that CAN'T BE (NONE: none), 1 WHY (0: none).");
        first("nothing", new SixHands(3), -1, 0);
        SixHands x = Booths.glove(0, 24, 1);
        first("beat 0", x, 0, 1);
        x.take(1);
        first("none", x, -1, 0);
        x.hold(23, 0, 3);
        first("beat 23", x, 23, 1);
        SixHands nobody = Booths.glove(0, 1, 0);
        first("without puppeteers", nobody, 0, 1);
    }

    private static void judgeRefused() {
        Due.says(15, "NONE for others.");
        SixHands x = Booths.glove(0, 1, 1);
        for (int what : new int[] {-1, -2, 2, 3, 8}) {
            Due.is("judge(" + what + ")", -1, x.judge(what));
        }
        for (int far : Booths.FAR) {
            Due.is("judge(" + far + ")", -1, x.judge(far));
        }
    }

    /** Promise 16. */
    private static void swapsAnswers() {
        Due.says(16, "SWAPS of THE PLAN.");
        SixHands x = Booths.glove(3, 24, 1);
        Due.is("by none throughout", 0, x.swaps());
        x.take(1);
        Due.is("by one throughout", 0, x.swaps());
        for (int beat = 1; beat < 24; beat += 2) {
            x.hold(beat, 0, 2);
        }
        Due.is("by each hand in turn", 23, x.swaps());
        Due.rule(x, "pass 1=2;");
        Due.is("those that can't be, too", 23, x.swaps());
        Due.is("cleared", 24, x.clear());
        Due.is("of none", 0, x.swaps());
    }

    /** Promise 17. */
    private static void longestAnswers() {
        Due.says(17, "LONGEST of a HAND.");
        SixHands x = Booths.glove(3, 6, 3);
        for (int beat = 0; beat < 6; beat++) {
            x.hold(beat, 0, (1 << 6) - (1 << beat));
        }
        for (int hand = 0; hand < 6; hand++) {
            Due.is("hand " + hand, hand + 1, x.longest(hand));
        }
        x.clear();
        for (int hand = 0; hand < 6; hand++) {
            Due.is("hand " + hand + " of no beats", 0, x.longest(hand));
        }
    }

    private static void longestRefused() {
        Due.says(17, "NONE for others.");
        for (int puppeteers = 0; puppeteers <= 3; puppeteers++) {
            SixHands x = Booths.glove(3, 1, puppeteers);
            for (int hand = -2; hand <= 8; hand++) {
                Due.is("hand " + hand + " of " + puppeteers, hand >= 0 && hand < 2 * puppeteers ? 0 : -1, x.longest(hand));
            }
            for (int far : Booths.FAR) {
                Due.is("hand " + far, -1, x.longest(far));
            }
        }
    }
}
