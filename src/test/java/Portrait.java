import java.util.function.Consumer;
import java.util.function.Supplier;

/** All that can be asked of an object, as one text: two that answer alike have the same portrait. */
final class Portrait {
    private final SixHands x;
    private final StringBuilder told = new StringBuilder();
    private final int puppeteers;
    private final int figures;
    private final int beats;

    private Portrait(SixHands x) {
        this.x = x;
        puppeteers = x.about(1);
        figures = x.about(2);
        beats = x.about(7);
    }

    /** The answers of all questions; some hundred calls, so a booth that is asked has few beats. */
    static String of(SixHands x) {
        Portrait portrait = new Portrait(x);
        portrait.booth();
        portrait.play();
        portrait.plan();
        portrait.sought();
        return portrait.told.toString();
    }

    /** That of an object with its tape, its texts and its image too: the object is of no use behind it. */
    static String wholly(SixHands x) {
        Portrait portrait = new Portrait(x);
        portrait.told.append(of(x));
        portrait.row("fault", x.fault(0), x.fault(1));
        portrait.row("tape", x.text(), x.fault(0), x.fault(1), x.about(5));
        int texts = x.about(5);
        for (int text = 0; text < texts; text++) {
            portrait.row("text", text, x.clear(), x.played(text), x.about(7), x.at(-1, 0), x.about(10), x.about(11));
        }
        portrait.row("back", x.back());
        portrait.told.append(of(x));
        return portrait.told.toString();
    }

    /** Holds that some calls, all refused, leave an object as it was. */
    static void stays(String what, Supplier<SixHands> maker, Consumer<SixHands> refused) {
        SixHands asked = maker.get();
        refused.accept(asked);
        Due.same(what, wholly(maker.get()), wholly(asked));
    }

    private void row(String name, int... answers) {
        told.append(name);
        for (int answer : answers) {
            told.append(' ').append(answer);
        }
        told.append('\n');
    }

    private void booth() {
        for (int what = 0; what <= 8; what++) {
            row("about", what, x.about(what));
        }
        for (int figure = 0; figure < figures; figure++) {
            row("lines", x.about(10 + figure));
        }
        for (int hand = 0; hand < 2 * puppeteers; hand++) {
            row("order", x.about(20 + hand));
        }
    }

    private void play() {
        for (int beat = -1; beat < beats; beat++) {
            for (int figure = 0; figure < figures; figure++) {
                row("at", beat, figure, x.at(beat, figure));
            }
        }
        for (int beat = 0; beat < beats; beat++) {
            row("sees", beat, x.sees(beat, 0), x.sees(beat, x.about(0) - 1));
        }
    }

    private void plan() {
        for (int beat = 0; beat < beats; beat++) {
            for (int figure = 0; figure < figures; figure++) {
                row("held", beat, figure, x.held(beat, figure));
            }
        }
        row("judge", x.judge(0), x.judge(1), x.swaps());
        for (int hand = 0; hand < 2 * puppeteers; hand++) {
            row("longest", x.longest(hand));
        }
    }

    private void sought() {
        int sets = 1 << puppeteers;
        for (int set = 0; set < sets; set++) {
            row("sought", set, x.fewest(set), x.strike(set, 0), x.strike(set, 1), x.bound(set));
        }
        for (int beat = 0; beat < beats; beat++) {
            for (int figure = 0; figure < figures; figure++) {
                row("found", beat, figure, x.found(sets - 1, beat, figure));
            }
            for (int who = 0; who < puppeteers; who++) {
                row("ill", who, beat, x.ill(who, beat));
            }
        }
        row("least", x.least());
    }
}
