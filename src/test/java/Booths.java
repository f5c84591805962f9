/** Booths that the tests of boundary cases begin with; each of few calls, so that an object stays below 512. */
final class Booths {
    /** Numbers that are never a place, a figure, a beat, a set, a text or a hand. */
    static final int[] FAR = {Integer.MIN_VALUE, Integer.MIN_VALUE + 1, -65536, -256, -2, 64, 256, 65536, 1 << 30, Integer.MAX_VALUE};

    private Booths() { }

    /** Some of all, and room for more of all: a play of three beats, a plan, laws, a tape, a fault, an older image. */
    static SixHands ripe() {
        SixHands x = new SixHands(5);
        x.puppeteer(1, 1);
        x.figure(0, 5);
        Due.read(x, "enter 0 at 1;beat;");
        x.played(0);
        x.hold(0, 0, 2);
        x.image();
        x.puppeteer(3, 2);
        x.figure(2, 3);
        x.figure(1, 2);
        x.rules(2, 2);
        Due.read(x, "may right=0 or figure=0;enter 1 at 3;beat;go 0 to 2;beat;pass place<3;shows seat+2>=place;");
        x.played(1);
        x.by(1);
        x.take(3);
        Due.read(x, "exit 6;");
        Due.put(x, "beat;enter 2 at 2;");
        return x;
    }

    /** As much of all as there can be, but two beats alone. */
    static SixHands full() {
        SixHands x = new SixHands(8);
        for (int i = 0; i < 3; i++) {
            x.puppeteer(7 - i, 7);
        }
        for (int i = 0; i < 6; i++) {
            x.figure(i % 2, 99);
        }
        x.rules(6, 24);
        Due.read(x, "enter 0 at 7;enter 1 at 0;enter 2 at 3;beat;enter 3 at 3;enter 4 at 3;enter 5 at 3;beat;");
        Due.read(x, "may who+right<3;pass from#to;shows many>1;");
        Due.read(x, "");
        Due.read(x, "go 0 to 3;");
        x.played(0);
        x.image();
        x.by(1);
        Due.put(x, "beat;".repeat(60));
        return x;
    }

    /** A glove at a place, in some beats that are all alike, and puppeteers that reach all. */
    static SixHands glove(int place, int beats, int puppeteers) {
        SixHands x = new SixHands(8);
        for (int i = 0; i < puppeteers; i++) {
            x.puppeteer(place, 7);
        }
        x.figure(0, 1);
        Due.play(x, "enter 0 at " + place + ";" + "beat;".repeat(beats));
        return x;
    }

    /** Puts a booth's gloves at some places for one beat. */
    static void stand(SixHands x, int... places) {
        StringBuilder text = new StringBuilder();
        for (int figure = 0; figure < places.length; figure++) {
            x.figure(0, 1);
            text.append("enter ").append(figure).append(" at ").append(places[figure]).append(';');
        }
        Due.is("all enter", -1, Due.play(x, text + "beat;"));
    }
}
